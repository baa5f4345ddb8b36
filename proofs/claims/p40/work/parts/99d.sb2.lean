/-! a number appended; a new builder; its text -/
theorem zdgL {n : Nat} (h : n < 1000000) : (zdg n).length = if n < 10 then 1 else if n < 100 then 2 else if n < 1000 then 3 else if n < 10000 then 4 else if n < 100000 then 5 else 6 := by
  have st : ∀ f k, ¬ k < 10 → (zdf (f + 1) k).length = (zdf f (k / 10)).length + 1 := fun f k hk => by rw [zdfS, if_neg hk, List.length_append]; rfl
  have s1 : ∀ f k, k < 10 → (zdf (f + 1) k).length = 1 := fun f k hk => by rw [zdfS, if_pos hk]; rfl
  unfold zdg
  by_cases h1 : n < 10
  · rw [if_pos h1, s1 6 n h1]
  · rw [if_neg h1, st 6 n h1]
    by_cases h2 : n < 100
    · rw [if_pos h2, s1 5 _ (by omega)]
    · rw [if_neg h2, st 5 _ (by omega)]
      by_cases h3 : n < 1000
      · rw [if_pos h3, s1 4 _ (by omega)]
      · rw [if_neg h3, st 4 _ (by omega)]
        by_cases h4 : n < 10000
        · rw [if_pos h4, s1 3 _ (by omega)]
        · rw [if_neg h4, st 3 _ (by omega)]
          by_cases h5 : n < 100000
          · rw [if_pos h5, s1 2 _ (by omega)]
          · rw [if_neg h5, st 2 _ (by omega), s1 1 _ (by omega)]
theorem zsts {n : Nat} (h : n < 1000000) : f_l_J6_stringSize_0f7a4 (nI n) = some (nI (zdg n).length) := by
  have hn1 : (nI n) = (nI n) := rfl
  have e10 : (-10 : Int32) = -nI 10 := by decide
  have st : ∀ (f a k : Nat), a < 10 ^ 6 → k < 9 → f_l_J6_stringSize_0f7a4_16 (f + 1) (-nI n) 0 (-nI a) (nI k) = if a ≤ n then f_l_J6_stringSize_0f7a4_16 f (-nI n) 0 (-nI (10 * a)) (nI (k + 1)) else some (nI k) := fun f a k ha hk => by
    rw [f_l_J6_stringSize_0f7a4_16, if_neg (show ¬ (10 : Int32) ≤ nI k from nI_ge (b := 10) (by omega) (by omega))]
    have em : (10 : Int32) * (-nI a) = -nI (10 * a) := by rw [show (10 : Int32) = nI 10 from rfl, Int32.mul_neg, pk_mul]
    rw [em, nI_1, Int32.add_zero]
    by_cases q : a ≤ n
    · rw [if_pos ((sb_nle (by omega) (by omega)).mpr q), if_pos q]
    · rw [if_neg (fun e => q ((sb_nle (by omega) (by omega)).mp e)), if_neg q]
  have sl : ∀ (f a k : Nat), n < a → a < 10 ^ 7 → k < 9 → f_l_J6_stringSize_0f7a4_16 (f + 1) (-nI n) 0 (-nI a) (nI k) = some (nI k) := fun f a k hna ha hk => by
    rw [f_l_J6_stringSize_0f7a4_16, if_neg (show ¬ (10 : Int32) ≤ nI k from nI_ge (b := 10) (by omega) (by omega)), if_neg (fun e => by have := (sb_nle (by omega) (by omega)).mp e; omega), Int32.add_zero]
  unfold f_l_J6_stringSize_0f7a4
  rw [if_neg (nI_pos (by omega)), e10, show (1 : Int32) = nI 1 from rfl, show g_fuel = 4089 + 1 + 1 + 1 + 1 + 1 + 1 + 1 from rfl, zdgL h, st _ 10 1 (by omega) (by omega)]
  by_cases h1 : n < 10
  · rw [if_neg (by omega), if_pos h1]
  · rw [if_pos (by omega), if_neg h1, st _ 100 2 (by omega) (by omega)]
    by_cases h2 : n < 100
    · rw [if_neg (by omega), if_pos h2]
    · rw [if_pos (by omega), if_neg h2, st _ 1000 3 (by omega) (by omega)]
      by_cases h3 : n < 1000
      · rw [if_neg (by omega), if_pos h3]
      · rw [if_pos (by omega), if_neg h3, st _ 10000 4 (by omega) (by omega)]
        by_cases h4 : n < 10000
        · rw [if_neg (by omega), if_pos h4]
        · rw [if_pos (by omega), if_neg h4, st _ 100000 5 (by omega) (by omega)]
          by_cases h5 : n < 100000
          · rw [if_neg (by omega), if_pos h5]
          · rw [if_pos (by omega), if_neg h5]
            exact sl _ 1000000 6 h (by omega) (by omega)
theorem zndg {n : Nat} (h : n < 2 ^ 30) : (-nI n) / (100 : Int32) = -nI (n / 100) := by
  apply Int32.toInt_inj.mp
  have e100 : (100 : Int32).toInt = ((100 : Nat) : Int) := by decide
  rw [Int32.toInt_div, sb_negT (by omega), sb_negT (by omega), e100, Int.neg_tdiv, ← Int.ofNat_tdiv]
  exact Int.bmod_eq_of_le (by omega) (by omega)
section ZNU
variable {y : MS} {s u L : Nat} {B : List Nat}
/-- the digits of a number, written from behind up to e -/
theorem zgc {V : Nat} : ∀ f n e k y, n < 1000000 → n < 10 ^ f → 0 < f → f ≤ 7 → (zdf f n).length ≤ e → e ≤ h_N y V → e < 5000 → h_K y V = 61 → ∃ F r, f_l_J6_getChars_ba4f3_22 (f + k) (-nI n) V (nI e) 0 y = some (r, h_wa y V F) ∧ (∀ j, j < (zdf f n).length → F (e - (zdf f n).length + j) = nI ((zdf f n).getD j 0)) ∧ ∀ j, (j < e - (zdf f n).length ∨ e ≤ j) → F j = h_I y V j := by
  have ewi : ∀ (y : MS) (V k : Nat) (v : Int32), h_wi y V k v = h_wa y V (upd (h_I y V) k v) := fun y V k v => rfl
  have ewa : ∀ (y : MS) (V : Nat) (F G : Nat → Int32), h_wa (h_wa y V F) V G = h_wa y V G := fun y V F G => by
    unfold h_wa
    refine Prod.ext rfl (Prod.ext ?_ rfl)
    funext j
    show (if j = V then G else if j = V then F else y.2.1 j) = if j = V then G else y.2.1 j
    by_cases h : j = V
    · rw [if_pos h, if_pos h]
    · rw [if_neg h, if_neg h, if_neg h]
  have ewI : ∀ (y : MS) (V : Nat) (F : Nat → Int32), h_I (h_wa y V F) V = F := fun y V F => if_pos rfl
  have nd1 : ∀ r, r < 100 → vp_nar .byte (g_d1 r) = nI (48 + r % 10) := fun r hr => zvn _ (by omega)
  have nd2 : ∀ r, r < 100 → vp_nar .byte (g_d2 r) = nI (48 + r / 10) := fun r hr => zvn _ (by omega)
  intro f
  induction f using Nat.strongRecOn with
  | _ f ih =>
    intro n e k y hn hf hf0 hf7 he heN he5 hK
    obtain ⟨g, rfl⟩ : ∃ g, f = g + 1 := ⟨f - 1, by omega⟩
    have hl0 : 0 < (zdf (g + 1) n).length := by
      rw [zdfS]
      split
      · exact Nat.one_pos
      · rw [List.length_append]; exact Nat.succ_pos _
    have e1 : nI e + (-1 : Int32) = nI (e - 1) := by rw [show e = e - 1 + 1 by omega, pk_m1, show e - 1 + 1 - 1 = e - 1 by omega]
    rw [show g + 1 + k = g + k + 1 by omega, f_l_J6_getChars_ba4f3_22, Int32.neg_neg, e1]
    have hok1 : g_ok (nI (e - 1)) (h_N y V) = true := (pp_ok (by omega)).mpr (by omega)
    by_cases h100 : n < 100
    · have q1 : (-100 : Int32) < -nI n := by
        rw [show (-100 : Int32) = -nI 100 by decide, sb_nlt (by omega) (by omega)]
        exact h100
      rw [if_pos q1, if_pos ((pp_ok (by omega)).mpr h100), if_pos hK, if_pos hok1, nI_clamp (by omega), nI_clamp (show n < 2 ^ 31 by omega), nd1 n h100, nd2 n h100]
      by_cases h10 : n < 10
      · have q2 : (-9 : Int32) ≤ -nI n := by
          rw [show (-9 : Int32) = -nI 9 by decide, sb_nle (by omega) (by omega)]
          omega
        rw [if_pos q2]
        unfold f_l_J6_getChars_ba4f3_104
        rw [if_pos rfl, ewi]
        have ez : zdf (g + 1) n = [48 + n] := by rw [zdfS, if_pos h10]
        rw [ez]
        refine ⟨_, _, rfl, fun j hj => ?_, fun j hj => ?_⟩
        · have ej : j = 0 := by have : j < 1 := hj; omega
          subst ej
          show upd (h_I y V) (e - 1) _ (e - 1 + 0) = _
          rw [Nat.add_zero, pp_u1, show n % 10 = n by omega]
          rfl
        · have hj' : j < e - 1 ∨ e ≤ j := hj
          rw [pp_u2 (by omega)]
      · have q2 : ¬ (-9 : Int32) ≤ -nI n := by
          rw [show (-9 : Int32) = -nI 9 by decide, sb_nle (by omega) (by omega)]
          omega
        obtain ⟨g2, rfl⟩ : ∃ g2, g = g2 + 1 := ⟨g - 1, by
          have : g ≠ 0 := fun q => by rw [q] at hf; omega
          omega⟩
        have ez : zdf (g2 + 1 + 1) n = [48 + n / 10] ++ [48 + n % 10] := by rw [zdfS, if_neg h10, zdfS, if_pos (by omega)]
        rw [ez] at he hl0 ⊢
        have he2 : 2 ≤ e := he
        have e2 : nI (e - 1) + (-1 : Int32) = nI (e - 2) := by rw [show e - 1 = e - 2 + 1 by omega, pk_m1]
        rw [if_neg q2, if_pos ((pp_ok (by omega)).mpr h100), e2]
        have hok2 : g_ok (nI (e - 2)) (h_N (h_wi y V (e - 1) (nI (48 + n % 10))) V) = true := (pp_ok (by omega)).mpr (by show e - 2 < h_N y V; omega)
        rw [if_pos hok2, nI_clamp (by omega)]
        unfold f_l_J6_getChars_ba4f3_104
        rw [if_pos rfl, ewi, ewi, ewa, ewI]
        refine ⟨_, _, rfl, fun j hj => ?_, fun j hj => ?_⟩
        · have ej : j = 0 ∨ j = 1 := by have : j < 2 := hj; omega
          rcases ej with rfl | rfl
          · show upd (upd (h_I y V) (e - 1) _) (e - 2) _ (e - 2 + 0) = _
            rw [Nat.add_zero, pp_u1]
            rfl
          · show upd (upd (h_I y V) (e - 1) _) (e - 2) _ (e - 2 + 1) = _
            rw [pp_u2 (by omega), show e - 2 + 1 = e - 1 by omega, pp_u1]
            rfl
        · have hj' : j < e - 2 ∨ e ≤ j := hj
          rw [pp_u2 (by omega), pp_u2 (by omega)]
    · have q1 : ¬ (-100 : Int32) < -nI n := by
        rw [show (-100 : Int32) = -nI 100 by decide, sb_nlt (by omega) (by omega)]
        exact h100
      have er : -nI n / (100 : Int32) * (100 : Int32) - -nI n = nI (n % 100) := by
        rw [zndg (by omega), Int32.sub_neg, show (100 : Int32) = nI 100 from rfl, Int32.neg_mul, pk_mul, Int32.add_comm, ← Int32.sub_eq_add_neg, pk_sub (by omega)]
        congr 1
        omega
      rw [if_neg q1, er, zndg (by omega)]
      obtain ⟨g2, rfl⟩ : ∃ g2, g = g2 + 1 + 1 := ⟨g - 2, by
        have h1 : g ≠ 0 := fun q => by rw [q] at hf; omega
        have h2 : g ≠ 1 := fun q => by rw [q] at hf; omega
        omega⟩
      have ez : zdf (g2 + 1 + 1 + 1) n = zdf (g2 + 1) (n / 100) ++ [48 + n % 100 / 10] ++ [48 + n % 10] := by
        rw [zdfS, if_neg (by omega), zdfS (g2 + 1) (n / 10), if_neg (by omega), show n / 10 / 10 = n / 100 by omega, show n / 10 % 10 = n % 100 / 10 by omega]
      have elen : (zdf (g2 + 1 + 1 + 1) n).length = (zdf (g2 + 1) (n / 100)).length + 2 := by
        rw [ez, List.length_append, List.length_append]; rfl
      rw [elen] at he ⊢
      have e2 : nI (e - 1) + (-1 : Int32) = nI (e - 2) := by rw [show e - 1 = e - 2 + 1 by omega, pk_m1]
      have hr : n % 100 < 100 := by omega
      have hok2 : g_ok (nI (e - 2)) (h_N (h_wi y V (e - 1) (nI (48 + n % 100 % 10))) V) = true := (pp_ok (by omega)).mpr (by show e - 2 < h_N y V; omega)
      rw [if_pos ((pp_ok (by omega)).mpr hr), if_pos hK, if_pos hok1, if_pos ((pp_ok (by omega)).mpr hr), e2, nI_clamp (show e - 1 < 2 ^ 31 by omega), nI_clamp (show n % 100 < 2 ^ 31 by omega), nd1 _ hr, nd2 _ hr, if_pos hok2, nI_clamp (show e - 2 < 2 ^ 31 by omega), ewi, ewi, ewa, ewI]
      have e10 : 10 ^ (g2 + 1 + 1 + 1) = 10 ^ (g2 + 1) * 100 := by
        rw [Nat.pow_succ, Nat.pow_succ]
        omega
      obtain ⟨F, r, i1, i2, i3⟩ := ih (g2 + 1) (by omega) (n / 100) (e - 2) (k + 1) (h_wa y V (upd (upd (h_I y V) (e - 1) (nI (48 + n % 100 % 10))) (e - 2) (nI (48 + n % 100 / 10)))) (by omega) (by rw [e10] at hf; exact Nat.div_lt_of_lt_mul (by rw [Nat.mul_comm]; exact hf)) (by omega) (by omega) (by omega) (by show e - 2 ≤ h_N y V; omega) (by omega) hK
      rw [ewI] at i3
      rw [ewa] at i1
      refine ⟨F, r, by rw [show g2 + 1 + 1 + k = g2 + 1 + (k + 1) by omega]; exact i1, fun j hj => ?_, fun j hj => ?_⟩
      · rw [ez]
        by_cases j1 : j < (zdf (g2 + 1) (n / 100)).length
        · have e3 := i2 j j1
          rw [show e - ((zdf (g2 + 1) (n / 100)).length + 2) + j = e - 2 - (zdf (g2 + 1) (n / 100)).length + j by omega, e3, zgd_l (by rw [List.length_append]; omega), zgd_l j1]
        · by_cases j2 : j = (zdf (g2 + 1) (n / 100)).length
          · rw [show e - ((zdf (g2 + 1) (n / 100)).length + 2) + j = e - 2 by omega, i3 (e - 2) (by omega), pp_u1, zgd_l (by rw [List.length_append]; show j < _ + 1; omega), zgd_r (by omega), j2, Nat.sub_self]
            rfl
          · have j3 : j = (zdf (g2 + 1) (n / 100)).length + 1 := by omega
            rw [show e - ((zdf (g2 + 1) (n / 100)).length + 2) + j = e - 1 by omega, i3 (e - 1) (by omega), pp_u2 (by omega), pp_u1, zgd_r (by rw [List.length_append]; show _ + 1 ≤ j; omega), List.length_append, j3]
            show _ = nI ([48 + n % 10].getD ((zdf (g2 + 1) (n / 100)).length + 1 - ((zdf (g2 + 1) (n / 100)).length + 1)) 0)
            rw [Nat.sub_self, show n % 100 % 10 = n % 10 by omega]
            rfl
      · rw [i3 j (by omega), pp_u2 (by omega), pp_u2 (by omega)]
/-- append a number -/
theorem zapn {n : Nat} (h : zB y s B) (hn : n < 1000000) (hL : B.length + 6 ≤ L) (hL2 : L ≤ 1499) (hu : 2 * L + 2 ≤ 600 * u) (hu1 : 1 ≤ u) (hb : yb y u) (hO : yO y) (hnx : 200 ≤ h_nx y) : ∃ y', f_l_J4_append_bf812 s (nI n) y = some (s, y') ∧ zB y' s (B ++ zdg n) ∧ yG u y y' ∧ zFr s y y' := by
  have hd := zdg_len hn
  have a1 := h.1.1
  have a3 := h.1.2.2
  obtain ⟨y1, e1, e2, e3, e4, e5, e6⟩ := zens (m := B.length + (zdg n).length) (L := L) h (by omega) (by omega) hL2 hu hu1 hb hO hnx
  obtain ⟨⟨p1, p2, p3⟩, ⟨q1, q2, q3, q4⟩, r1, r2, r3, r4⟩ := id e2
  obtain ⟨V, hV⟩ : ∃ V, V = h_R y1 s 0 := ⟨_, rfl⟩
  rw [← hV] at q1 q2 q3 q4 r1 r2 e3
  obtain ⟨F, r, i1, i2, i3⟩ := zgc (V := V) 7 n (B.length + (zdg n).length) 4089 y1 hn (by omega) (by omega) (by omega) (by show (zdg n).length ≤ _; omega) e3 (by omega) q2
  have ed : zdf 7 n = zdg n := rfl
  rw [ed] at i2 i3
  rw [show B.length + (zdg n).length - (zdg n).length = B.length by omega] at i2 i3
  obtain ⟨g1, g2, g3⟩ := zset (C := zdg n) (F := F) e2 hV e3 (fun c hc => by have := zdf_dg 7 n c hc; omega) (by omega) (fun j hj => i3 j (Or.inl hj)) i2 (fun j hj => i3 j (Or.inr hj))
  refine ⟨_, ?_, g1, (e4.tr g2).mo (by omega), (zfrs e5 e6).tr g3 e4⟩
  have k1 : h_K (h_wa y1 V F) s = 54 := p1
  have egc : f_l_J6_getChars_ba4f3 (nI n) (nI (B.length + (zdg n).length)) V y1 = some (r, h_wa y1 V F) := by
    unfold f_l_J6_getChars_ba4f3 f_l_J6_getChars_ba4f3_12
    rw [if_pos (nI_pos' (by omega)), if_pos rfl]
    exact i1
  unfold f_l_J4_append_bf812 f_l_J5_append_c97b9 f_l_J5_isLatin1_aae02
  rw [if_pos a1, if_pos a1, zsts hn, pp_b, a3, nI_add, e1, pp_b, if_pos p1, if_neg (show ¬ (1 : Int32) = 0 by decide), if_pos p1, p2, if_pos rfl, pp_b, if_neg (show ¬ (1 : Int32) = 0 by decide), if_pos p1, ← hV, if_pos q2, egc, pp_b]
  rw [if_pos k1, pp_b]
  exact if_pos k1
/-- a new builder at its cell -/
theorem zinit (hK : h_K y s = 54) (hI : h_I y s 3 = 0) (hb : yb y 1) (hO : yO y) (hnx : 200 ≤ h_nx y) : ∃ y', f_l_J4_init_da8c8 s y = some y' ∧ zB y' s [] ∧ yG 1 y y' ∧ yF (fun j => j = s) y y' ∧ h_R y' s 0 = h_nx y := by
  have hs : s < h_nx y := hO.k hK
  have o1 : ye y (h_new y 61 (fun _ => 0) (fun _ => 0) 16 16) s := yn_o hs
  refine ⟨h_wi (h_wr (h_new y 61 (fun _ => 0) (fun _ => 0) 16 16) s 0 (h_nx y)) s 1 0, ?_, ⟨⟨?_, ?_, ?_⟩, ⟨?_, ?_, ?_, ?_⟩, fun j hj => ?_, fun j hj => (by cases hj), fun c hc => (by cases hc), by show 0 ≤ 2500; omega⟩, ?_, fun j hj hP => ?_, ?_⟩
  · unfold f_l_J4_init_da8c8 f_l_J5_init_d00df
    have e16 : (16 : Int32).toNatClampNeg = 16 := rfl
    rw [if_pos hK, if_pos hK, if_neg (show ¬ (1 : Int32) = 0 by decide), if_pos (show ¬ (16 : Int32) < 0 by decide), e16, if_pos (yn_rm (k := 1) hb (by omega) (by omega)), if_pos (by rw [o1.1]; exact hK), if_pos yn_K, if_pos (show narrow .byte (.int (0 : Int32)) = .int (0 : Int32) ∧ fits .byte (.int (0 : Int32)) = true from ⟨rfl, rfl⟩)]
    rfl
  · exact o1.1.trans hK
  · rw [ywi_I, pp_u1]
  · rw [ywi_I, pp_u2 (by decide)]
    exact (congrFun o1.2.1 3).trans hI
  · show 200 ≤ h_R (h_wr (h_new y 61 (fun _ => 0) (fun _ => 0) 16 16) s 0 (h_nx y)) s 0
    rw [ywr_R, yup1]; exact hnx
  · show h_K (h_new y 61 (fun _ => 0) (fun _ => 0) 16 16) (h_R (h_wr (h_new y 61 (fun _ => 0) (fun _ => 0) 16 16) s 0 (h_nx y)) s 0) = 61
    rw [ywr_R, yup1]; exact yn_K
  · exact Nat.zero_le _
  · show h_N (h_new y 61 (fun _ => 0) (fun _ => 0) 16 16) (h_R (h_wr (h_new y 61 (fun _ => 0) (fun _ => 0) 16 16) s 0 (h_nx y)) s 0) ≤ 3000
    rw [ywr_R, yup1, yn_N]; omega
  · have eR : h_R (h_wi (h_wr (h_new y 61 (fun _ => 0) (fun _ => 0) 16 16) s 0 (h_nx y)) s 1 0) s 0 = h_nx y := by
      show h_R (h_wr (h_new y 61 (fun _ => 0) (fun _ => 0) 16 16) s 0 (h_nx y)) s 0 = _
      rw [ywr_R, yup1]
    rw [eR]
    refine ⟨0, by omega, ?_⟩
    rw [ywi_In (by omega)]
    show h_I (h_new y 61 (fun _ => 0) (fun _ => 0) 16 16) (h_nx y) j = nI 0
    rw [yn_I]
    rfl
  · exact ywi_G' (ywr_G' (yn_G (by omega) (by omega)))
  · exact (yn_o hj).tr ⟨rfl, ywi_In hP, ywr_Rn hP, rfl⟩
  · show h_R (h_wr (h_new y 61 (fun _ => 0) (fun _ => 0) 16 16) s 0 (h_nx y)) s 0 = h_nx y
    rw [ywr_R, yup1]
/-- its text -/
theorem ztoS (h : zB y s B) (hL : B.length ≤ 600 * u) (hu1 : 1 ≤ u) (hN : h_N y (h_R y s 0) ≤ 600 * u) (hb : yb y (u + 1)) (hO : yO y) (hnx : 200 ≤ h_nx y) : ∃ i y', f_l_J4_toString_0e30d s y = some (i, y') ∧ zH y' i B ∧ yG (u + 1) y y' ∧ yF (fun _ => False) y y' ∧ h_nx y ≤ i := by
  obtain ⟨⟨p1, p2, p3⟩, ⟨q1, q2, q3, q4⟩, r1, r2, r3, r4⟩ := h
  obtain ⟨V, hV⟩ : ∃ V, V = h_R y s 0 := ⟨_, rfl⟩
  rw [← hV] at q1 q2 q3 q4 r1 r2 hN
  obtain ⟨N, hNe⟩ : ∃ N, N = h_N y V := ⟨_, rfl⟩
  rw [← hNe] at q3 q4 r1 hN
  have hsl : s < h_nx y := hO.k p1
  have hVl : V < h_nx y := hO.k q2
  obtain ⟨y1, hy1⟩ : ∃ y1, y1 = h_wi (h_new y 55 (fun _ => 0) (fun _ => 0) 0 4) (h_nx y) 1 0 := ⟨_, rfl⟩
  have o1 : ∀ j, j < h_nx y → ye y y1 j := fun j hj => by
    rw [hy1]
    exact (yn_o hj).tr ⟨rfl, ywi_In (by omega), rfl, rfl⟩
  have on : ∀ j, j < h_nx y → ye y (h_new y 55 (fun _ => 0) (fun _ => 0) 0 4) j := fun j hj => yn_o hj
  have k1 : h_K y1 (h_nx y) = 55 := by rw [hy1]; exact (show h_K (h_new y 55 (fun _ => 0) (fun _ => 0) 0 4) (h_nx y) = 55 from yn_K)
  have n1 : h_nx y1 = h_nx y + 1 := by rw [hy1]; rfl
  have g1 : yG 1 y y1 := by rw [hy1]; exact ywi_G' (yn_G (by omega) (by omega))
  have i1 : h_I y1 (h_nx y) 1 = 0 := by rw [hy1, ywi_I, pp_u1]
  have hb1 : yb y1 u := hb.g g1 (by omega)
  have v1 : h_vok y1 V = true := by unfold h_vok; rw [(o1 V hVl).1, decide_eq_true q2, Bool.or_true]
  have vn1 : h_vn y1 V = N := by
    have : h_vn y1 V = h_N y1 V := if_neg (by omega)
    rw [this, (o1 V hVl).2.2.2, ← hNe]
  have I1 : h_I y1 V = h_I y V := (o1 V hVl).2.1
  have K1 : h_K y1 V = 61 := by rw [(o1 V hVl).1]; exact q2
  -- the row of the text
  obtain ⟨y2, c1, c2, c3, c4, c5⟩ : ∃ y2, f_l_J7_copyOfRange_39247 V 0 (nI B.length) y1 = some (h_nx y1, y2) ∧ (h_K y2 (h_nx y1) = 61 ∧ h_N y2 (h_nx y1) = B.length) ∧ (∀ j, j < B.length → h_I y2 (h_nx y1) j = nI (B.getD j 0)) ∧ yG u y1 y2 ∧ yF (fun _ => False) y1 y2 := by
    unfold f_l_J7_copyOfRange_39247
    rw [if_pos rfl, if_pos v1, vn1]
    by_cases hq : B.length = N
    · rw [if_pos (by rw [hq]), if_pos K1, (o1 V hVl).2.2.2, ← hNe, if_pos (yn_rm hb1 hu1 (by omega)), I1, if_pos (zfb r1), if_pos yn_K]
      exact ⟨_, rfl, ⟨yn_K, by rw [yn_N, hq]⟩, fun j hj => by rw [yn_I]; exact r2 j hj, yn_G hu1 (by omega), yn_F _⟩
    · rw [if_neg (by rw [nI_eq (by omega) (by omega)]; exact hq)]
      obtain ⟨y2, hy2⟩ : ∃ y2, y2 = h_new y1 61 (fun _ => 0) (fun _ => 0) B.length B.length := ⟨_, rfl⟩
      have o2 : ∀ j, j < h_nx y1 → ye y1 y2 j := fun j hj => by rw [hy2]; exact yn_o hj
      have v2 : h_vok y2 V = true := by unfold h_vok; rw [(o2 V (by omega)).1, decide_eq_true K1, Bool.or_true]
      have vn2 : h_vn y2 V = N := by
        have : h_vn y2 V = h_N y2 V := if_neg (by omega)
        rw [this, (o2 V (by omega)).2.2.2, (o1 V hVl).2.2.2, ← hNe]
      have vb2 : h_vb y2 V = h_I y V := by
        have : h_vb y2 V = h_I y2 V := if_neg (by omega)
        rw [this, (o2 V (by omega)).2.1, I1]
      have k2 : h_K y2 (h_nx y1) = 61 := by rw [hy2]; exact yn_K
      have n2 : h_N y2 (h_nx y1) = B.length := by rw [hy2]; exact yn_N
      unfold f_l_J7_copyOfRange_39247_10 f_l_J7_copyOfRangeByte_39247 f_l_J7_checkLength_df160
      have es : nI B.length - (0 : Int32) = nI B.length := Int32.sub_zero _
      have es2 : nI N - (0 : Int32) = nI N := Int32.sub_zero _
      have e0 : (0 : Int32).toNatClampNeg = 0 := rfl
      have emn : g_min (nI N) (nI B.length) = nI B.length := by rw [pp_min (by omega) (by omega), Nat.min_eq_right q3]
      rw [if_pos (nI_pos' (by omega)), pp_b, es, if_pos (nI_pos (by omega)), nI_clamp (by omega), if_pos (yn_rm hb1 hu1 (by omega)), ← hy2, if_pos v2, if_pos k2, if_pos v2, vn2, es2, emn, vb2, e0, nI_clamp (by omega), if_pos ⟨⟨by decide, by decide, nI_pos (by omega)⟩, by omega, by rw [n2]; omega⟩, if_pos (zfb (fun j hj => by rw [Nat.zero_add]; exact r1 j (by omega))), pp_b]
      refine ⟨_, rfl, ⟨k2, n2⟩, fun j hj => ?_, ?_, fun j hj hP => ?_⟩
      · have : h_I (h_wa y2 (h_nx y1) (va_cpy (h_I y V) (h_I y2 (h_nx y1)) 0 0 B.length)) (h_nx y1) = va_cpy (h_I y V) (h_I y2 (h_nx y1)) 0 0 B.length := if_pos rfl
        show h_I (h_wa y2 (h_nx y1) (va_cpy (h_I y V) (h_I y2 (h_nx y1)) 0 0 B.length)) (h_nx y1) j = _
        rw [this, pk_cpy_in (by omega) (by omega), show 0 + (j - 0) = j by omega]
        exact r2 j hj
      · have ga : yG u y1 y2 := by rw [hy2]; exact yn_G hu1 (by omega)
        exact (ga.tr (ywa_G _ _ _)).mo (by omega)
      · exact (o2 j hj).tr ⟨rfl, if_neg (by omega), rfl, rfl⟩
  have k2 : h_K y2 (h_nx y) = 55 := by rw [(c5 (h_nx y) (by omega) (fun q => q)).1]; exact k1
  refine ⟨h_nx y, h_wr y2 (h_nx y) 0 (h_nx y1), ?_, ⟨Or.inr ⟨hnx, ?_, ?_, ?_, ?_, ?_, fun j hj => ?_⟩, r3, by omega⟩, ?_, fun j hj hP => ?_, Nat.le_refl _⟩
  · unfold f_l_J4_toString_0e30d f_l_J0_init_81219 f_l_J0_init_db425
    have os := on s hsl
    have oV := on V hVl
    have egv : f_l_J5_getValue_6d5f1 s (h_new y 55 (fun _ => 0) (fun _ => 0) 0 4) = some V := by
      unfold f_l_J5_getValue_6d5f1
      rw [if_pos (by rw [os.1]; exact p1), os.2.2.1, ← hV, if_pos (by rw [oV.1]; exact q2)]
    have eln : f_l_J4_length_8abf5 s (h_new y 55 (fun _ => 0) (fun _ => 0) 0 4) = some (nI B.length) := by
      unfold f_l_J4_length_8abf5 f_l_J5_length_8abf5
      rw [if_pos (by rw [os.1]; exact p1), if_pos (by rw [os.1]; exact p1), os.2.1, p3]
      rfl
    have ell : f_l_J5_isLatin1_aae02 s (h_new y 55 (fun _ => 0) (fun _ => 0) 0 4) = some 1 := by
      unfold f_l_J5_isLatin1_aae02
      rw [if_neg (show ¬ (1 : Int32) = 0 by decide), if_pos (by rw [os.1]; exact p1), os.2.1, p2, if_pos rfl]
    have ks : h_K (h_new y 55 (fun _ => 0) (fun _ => 0) 0 4) s = 54 := by rw [os.1]; exact p1
    rw [if_pos (yn_rm (k := u + 1) hb (by omega) (by omega)), if_pos yn_K, if_pos yn_K, if_pos yn_K, if_pos ks, egv, pp_b, if_pos ks, eln, pp_b, if_pos ks, ell, pp_b, if_neg (show ¬ (1 : Int32) = 0 by decide), if_pos (show narrow .byte (.int (0 : Int32)) = .int (0 : Int32) ∧ fits .byte (.int (0 : Int32)) = true from ⟨rfl, rfl⟩), ← hy1, c1, pp_b, if_pos k2, if_pos c2.1, pp_b, pp_b]
    exact if_pos k2
  · exact k2
  · show h_I y2 (h_nx y) 1 = 0
    rw [(c5 (h_nx y) (by omega) (fun q => q)).2.1]; exact i1
  · rw [ywr_R, yup1]; omega
  · rw [ywr_R, yup1]; exact c2.1
  · rw [ywr_R, yup1]; exact c2.2
  · rw [ywr_R, yup1]; exact c3 j hj
  · exact ywr_G' ((g1.tr c4).mo (by omega))
  · exact (o1 j hj).tr ((c5 j (by omega) (fun q => q)).tr ⟨rfl, rfl, ywr_Rn (by omega), rfl⟩)
end ZNU
