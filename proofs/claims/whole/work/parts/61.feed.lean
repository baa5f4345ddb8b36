/-! bytes fed -/
theorem pp_bv (b : BitVec 32) (s : Nat) (hs : s ≤ 24) : (b >>> s).toNat % 2 ^ 8 = (b.sshiftRight s).toNat % 2 ^ 8 := by
  rw [← BitVec.toNat_setWidth, ← BitVec.toNat_setWidth]
  congr 1
  apply BitVec.eq_of_getLsbD_eq
  intro i hi
  rw [BitVec.getLsbD_setWidth, BitVec.getLsbD_setWidth, BitVec.getLsbD_ushiftRight, BitVec.getLsbD_sshiftRight]
  have h1 : decide (32 ≤ i) = false := by simp; omega
  have h2 : s + i < 32 := by omega
  simp [h1, h2]
def pp_by (a s : Int32) : Int32 := (a >>> (s &&& 31)) &&& (255 : Int32)
theorem pp_byC (a : Int32) (s : Int32) (hs : s = 24 ∨ s = 16 ∨ s = 8 ∨ s = 0) : vp_nar .char (((((a.toUInt32 >>> (s.toUInt32 &&& Int32.toUInt32 31)).toInt32) &&& (255 : Int32)).toUInt32 % 65536).toInt32) = pp_by a s ∧ ∃ c, c < 256 ∧ pp_by a s = nI c := by
  have key : ∀ k : Nat, k ≤ 24 → (a.toUInt32 >>> (s.toUInt32 &&& Int32.toUInt32 31)).toInt32.toBitVec = a.toBitVec >>> k → (a >>> (s &&& 31)).toBitVec = a.toBitVec.sshiftRight k → vp_nar .char (((((a.toUInt32 >>> (s.toUInt32 &&& Int32.toUInt32 31)).toInt32) &&& (255 : Int32)).toUInt32 % 65536).toInt32) = pp_by a s ∧ ∃ c, c < 256 ∧ pp_by a s = nI c := by
    intro k hk h1 h2
    have e1 := pk_and ((a.toUInt32 >>> (s.toUInt32 &&& Int32.toUInt32 31)).toInt32) (m := 255) 8 (by decide)
    have e2 := pk_and (a >>> (s &&& 31)) (m := 255) 8 (by decide)
    have h3 := pp_bv a.toBitVec k hk
    rw [h1, h3] at e1
    rw [h2] at e2
    have hlt : (a.toBitVec.sshiftRight k).toNat % 2 ^ 8 < 256 := Nat.mod_lt _ (by omega)
    unfold pp_by
    refine ⟨?_, _, hlt, e2⟩
    rw [e1, e2, pk_char, pk_tn (by omega), Nat.mod_eq_of_lt (by omega)]
    unfold vp_nar
    rw [(pk_charN (by omega)).1]
  rcases hs with rfl | rfl | rfl | rfl
  · exact key 24 (by omega) rfl rfl
  · exact key 16 (by omega) rfl rfl
  · exact key 8 (by omega) rfl rfl
  · exact key 0 (by omega) rfl rfl
def pp_tp (x : CS) (T : Nat) (f : Nat → Int32) : CS := g_wa (g_wi x 1 1 (nI T)) 2 f
def pp_tm (y : MS) (T : Nat) (f : Nat → Int32) : MS := g_ma (g_mi y 120 2 (nI T)) 121 f
theorem pp_tp1 {x : CS} {T : Nat} {f : Nat → Int32} : (pp_tp x T f).1 1 1 = nI T := by unfold pp_tp; rw [pp_c4 (by omega), pp_c1, pp_c3, pp_u1]
theorem pp_tp2 {x : CS} {T : Nat} {f : Nat → Int32} : (pp_tp x T f).1 2 = f := pp_c3
theorem pp_tp3 {x : CS} {T U : Nat} {f g : Nat → Int32} : g_wi (g_wa (pp_tp x T f) 2 g) 1 1 (nI U) = pp_tp x U g := by
  unfold pp_tp g_wa g_wi
  refine Prod.ext ?_ rfl
  funext j k
  by_cases h : j = 1
  · subst h
    by_cases hk : k = 1 <;> simp [upd, hk]
  · by_cases h2 : j = 2 <;> simp [h, h2]
theorem pp_tm1 {y : MS} {T : Nat} {f : Nat → Int32} : (pp_tm y T f) 120 2 = nI T := by unfold pp_tm; rw [pp_g4 (by omega), pp_g1, pp_g3, pp_u1]
theorem pp_tm2 {y : MS} {T : Nat} {f : Nat → Int32} : (pp_tm y T f) 121 = f := pp_g3
theorem pp_tm3 {y : MS} {T U : Nat} {f g : Nat → Int32} : g_mi (g_ma (pp_tm y T f) 121 g) 120 2 (nI U) = pp_tm y U g := by
  unfold pp_tm g_ma g_mi
  funext j k
  by_cases h : j = 120
  · subst h
    by_cases hk : k = 2 <;> simp [upd, hk]
  · by_cases h2 : j = 121 <;> simp [h, h2]
def pp_f4 (f : Nat → Int32) (T : Nat) (a : Int32) : Nat → Int32 := upd (upd (upd (upd f T (pp_by a 24)) (T + 1) (pp_by a 16)) (T + 2) (pp_by a 8)) (T + 3) (pp_by a 0)
theorem pp_apS {x : CS} {T fu : Nat} {f : Nat → Int32} {a s : Int32} (hT : T < 2000) (hs : s = 24 ∨ s = 16 ∨ s = 8 ∨ s = 0) : f_X7_append_3 (fu + 1) a s (pp_tp x T f) = f_X7_append_3 fu a (s + (-8 : Int32)) (pp_tp x (T + 1) (upd f T (pp_by a s))) := by
  have hs0 : ¬ s < 0 := by rcases hs with rfl | rfl | rfl | rfl <;> decide
  rw [f_X7_append_3, if_neg hs0, pp_tp1, if_neg (nI_pos (by omega)), show (2000 : Int32) = nI 2000 from rfl, if_neg (nI_ge hT (by omega)), if_pos ((pp_ok (by omega)).mpr hT), nI_clamp (by omega), (pp_byC a s hs).1]
  rw [show (g_wi (pp_tp x T f) 2 T (pp_by a s)) = g_wa (pp_tp x T f) 2 (upd f T (pp_by a s)) by rw [pp_c1, pp_tp2], pp_c4 (show (1 : Nat) ≠ 2 by omega), pp_tp1, nI_1, pp_tp3]
theorem pp_ap {x : CS} {T : Nat} {f : Nat → Int32} {a : Int32} (hT : T + 4 ≤ 2000) : f_X7_append a (pp_tp x T f) = some (pp_tp x (T + 4) (pp_f4 f T a)) := by
  have h : f_X7_append a (pp_tp x T f) = f_X7_append_3 (4091 + 1 + 1 + 1 + 1 + 1) a 24 (pp_tp x T f) := rfl
  rw [h, pp_apS (by omega) (Or.inl rfl), show (24 : Int32) + -8 = 16 by decide, pp_apS (by omega) (Or.inr (Or.inl rfl)), show (16 : Int32) + -8 = 8 by decide, pp_apS (by omega) (Or.inr (Or.inr (Or.inl rfl))), show (8 : Int32) + -8 = 0 by decide, pp_apS (by omega) (Or.inr (Or.inr (Or.inr rfl))), show (0 : Int32) + -8 = -8 by decide, f_X7_append_3, if_pos (by decide)]
  rfl
theorem pp_amS {y : MS} {T fu : Nat} {f : Nat → Int32} {k63 : Int32 → Int32 → MS → Option (Int32 × MS)} {l8 l9 a s : Int32} (hT : T < 2000) (hs0 : ¬ s < 0) : f_X15_feed_81 k63 (fu + 1) l8 l9 a s (pp_tm y T f) = f_X15_feed_81 k63 fu l8 l9 a (s + (-8 : Int32)) (pp_tm y (T + 1) (upd f T (pp_by a s))) := by
  rw [f_X15_feed_81, if_neg hs0, pp_tm1, if_pos ((pp_ok (by omega)).mpr hT), nI_clamp (by omega)]
  rw [show (g_mi (pp_tm y T f) 121 T ((a >>> (s &&& 31)) &&& (255 : Int32))) = g_ma (pp_tm y T f) 121 (upd f T (pp_by a s)) by rw [pp_g1, pp_tm2]; rfl, pp_g4 (show (120 : Nat) ≠ 121 by omega), pp_tm1, nI_1, pp_tm3]
theorem pp_am {y : MS} {T : Nat} {f : Nat → Int32} {k63 : Int32 → Int32 → MS → Option (Int32 × MS)} {l8 l9 a : Int32} (hT : T + 4 ≤ 2000) : f_X15_feed_81 k63 g_fuel l8 l9 a 24 (pp_tm y T f) = k63 l8 (l9 + 1) (pp_tm y (T + 4) (pp_f4 f T a)) := by
  have h : f_X15_feed_81 k63 g_fuel l8 l9 a 24 (pp_tm y T f) = f_X15_feed_81 k63 (4091 + 1 + 1 + 1 + 1 + 1) l8 l9 a 24 (pp_tm y T f) := rfl
  rw [h, pp_amS (by omega) (by decide), show (24 : Int32) + -8 = 16 by decide, pp_amS (by omega) (by decide), show (16 : Int32) + -8 = 8 by decide, pp_amS (by omega) (by decide), show (8 : Int32) + -8 = 0 by decide, pp_amS (by omega) (by decide), show (0 : Int32) + -8 = -8 by decide, f_X15_feed_81, if_pos (by decide)]
  rfl
def pp_eq (T : Nat) (f g : Nat → Int32) : Prop := ∀ k, k < T → f k = g k ∧ ∃ c, c < 256 ∧ g k = nI c
theorem pp_eqU {T : Nat} {f g : Nat → Int32} {v : Int32} (h : pp_eq T f g) (hv : ∃ c, c < 256 ∧ v = nI c) : pp_eq (T + 1) (upd f T v) (upd g T v) := by
  intro k hk
  rcases Nat.lt_or_ge k T with h1 | h1
  · rw [pp_u2 (by omega), pp_u2 (by omega)]; exact h k h1
  · have e : k = T := by omega
    rw [e, pp_u1, pp_u1]; exact ⟨rfl, hv⟩
theorem pp_eq4 {T : Nat} {f g : Nat → Int32} (h : pp_eq T f g) (a : Int32) : pp_eq (T + 4) (pp_f4 f T a) (pp_f4 g T a) :=
  pp_eqU (pp_eqU (pp_eqU (pp_eqU h (pp_byC a 24 (Or.inl rfl)).2) (pp_byC a 16 (Or.inr (Or.inl rfl))).2) (pp_byC a 8 (Or.inr (Or.inr (Or.inl rfl)))).2) (pp_byC a 0 (Or.inr (Or.inr (Or.inr rfl)))).2
def pp_f20 (f : Nat → Int32) (T : Nat) (a b c d e : Int32) : Nat → Int32 := pp_f4 (pp_f4 (pp_f4 (pp_f4 (pp_f4 f T a) (T + 4) b) (T + 4 + 4) c) (T + 4 + 4 + 4) d) (T + 4 + 4 + 4 + 4) e
theorem pp_eq20 {T : Nat} {f g : Nat → Int32} (h : pp_eq T f g) (a b c d e : Int32) : pp_eq (T + 20) (pp_f20 f T a b c d e) (pp_f20 g T a b c d e) := pp_eq4 (pp_eq4 (pp_eq4 (pp_eq4 (pp_eq4 h a) b) c) d) e
theorem pp_m63 {y : MS} {fu T k : Nat} {f : Nat → Int32} (hT : T + 4 ≤ 2000) (hk : k < 5) : f_X15_feed_63 (fu + 1) 5 (nI k) (pp_tm y T f) = f_X15_feed_63 fu 5 (nI (k + 1)) (pp_tm y (T + 4) (pp_f4 f T (y 164 k))) := by
  rw [f_X15_feed_63, if_neg (show ¬ (5 : Int32) ≤ nI k from nI_ge (b := 5) hk (by omega)), if_pos ((pp_ok (by omega)).mpr hk), nI_clamp (by omega), pp_am hT, nI_1]
  rw [show pp_tm y T f 164 = y 164 by unfold pp_tm; rw [pp_g4 (by omega), pp_g1, pp_g4 (by omega)]]
theorem pp_feedM {y : MS} {T : Nat} {a b c d e : Int32} (hy : y 120 2 = nI T) (hT : T + 20 ≤ 2000) : ∃ z, z 120 2 = nI (T + 20) ∧ z 120 0 = 0 ∧ (∀ k, k ≠ 0 → k ≠ 2 → z 120 k = y 120 k) ∧ (∀ i, i ≠ 120 → i ≠ 121 → i ≠ 164 → z i = y i) ∧ z 121 = pp_f20 (y 121) T a b c d e ∧ f_X15_feed a b c d e y = some (nI (T + 20), z) := by
  have hw : ∀ Y : MS, Y 120 = upd (y 120) 0 0 → Y = pp_tm Y T (Y 121) := fun Y hY => by
    unfold pp_tm g_ma g_mi
    funext i k
    by_cases h1 : i = 121
    · subst h1; simp
    · by_cases h2 : i = 120
      · subst h2
        by_cases hk : k = 2
        · subst hk
          simp only [h1, if_true, if_false]
          rw [pp_u1, hY, pp_u2 (by omega), hy]
        · simp only [h1, if_true, if_false]
          rw [pp_u2 hk]
      · simp only [h1, h2, if_false]
  obtain ⟨Y, hY⟩ : ∃ Y, Y = (g_mi (g_mi (g_mi (g_mi (g_mi (g_ma (g_mi y 120 0 0) 164 (fun _ => 0)) 164 0 a) 164 1 b) 164 2 c) 164 3 d) 164 4 e) := ⟨_, rfl⟩
  have y120 : Y 120 = upd (y 120) 0 0 := by rw [hY]; simp [g_mi, g_ma]
  have y164 : Y 164 0 = a ∧ Y 164 1 = b ∧ Y 164 2 = c ∧ Y 164 3 = d ∧ Y 164 4 = e := by rw [hY]; simp [g_mi, g_ma, upd]
  have yo : ∀ i, i ≠ 120 → i ≠ 164 → Y i = y i := fun i h1 h2 => by rw [hY]; simp [g_mi, g_ma, h1, h2]
  have hf : f_X15_feed a b c d e y = f_X15_feed_63 (4090 + 1 + 1 + 1 + 1 + 1 + 1) 5 (nI 0) Y := by
    rw [hY]
    unfold f_X15_feed
    rw [if_pos (show ((g_mi y 120 0 0) 120 2) + 20 ≤ 2000 by rw [pp_thn (by omega), hy]; rw [show nI T + (20 : Int32) = nI (T + 20) from nI_add T 20]; exact nI_le (b := 2000) hT (by omega)), if_pos (show g_ok (0 : Int32) 5 = true by decide), if_pos (show g_ok (1 : Int32) 5 = true by decide), if_pos (show g_ok (2 : Int32) 5 = true by decide), if_pos (show g_ok (3 : Int32) 5 = true by decide), if_pos (show g_ok (4 : Int32) 5 = true by decide)]
    rfl
  refine ⟨pp_tm Y (T + 20) (pp_f20 (Y 121) T a b c d e), pp_tm1, ?_, fun k h1 h2 => ?_, fun i h1 h2 h3 => ?_, ?_, ?_⟩
  · unfold pp_tm
    rw [pp_g4 (by omega), pp_g1, pp_g3, pp_u2 (by omega), y120, pp_u1]
  · unfold pp_tm
    rw [pp_g4 (by omega), pp_g1, pp_g3, pp_u2 h2, y120, pp_u2 h1]
  · unfold pp_tm
    rw [pp_g4 h2, pp_g1, pp_g4 h1]; exact yo i h1 h3
  · rw [pp_tm2, yo 121 (by omega) (by omega)]
  · rw [hf]
    conv => lhs; rw [hw Y y120]
    rw [pp_m63 (by omega) (by omega), pp_m63 (by omega) (by omega), pp_m63 (by omega) (by omega), pp_m63 (by omega) (by omega), pp_m63 (by omega) (by omega), f_X15_feed_63, if_pos (by decide), y164.1, y164.2.1, y164.2.2.1, y164.2.2.2.1, y164.2.2.2.2, pp_tm1]
    rfl
theorem pp_o0 {a b c d e : Int32} {x : CS} {y : MS} {o : Nat → Int32} (h : pp_R x y) : pp_OK (f_L_feed a b c d e x o) (f_X15_feed a b c d e y) := by
  have h0 := h
  obtain ⟨A, b0, v, R, Z, nr, T, hA, hT, hC, hM, h3, h4, hB⟩ := h
  have hW := hA.1
  have hv := hC.1
  have hg : y 127 0 = nI (pv_g A) := hM.2.2.1
  have hg20 := hA.2.2.2
  have hb := hB.1
  have hbg := hB.2.2.2.2.2.1
  obtain ⟨k1, k2, k3, k4, k5, k6, k7, k8, k9, k10, k11⟩ := hT
  by_cases hT20 : T + 20 ≤ 2000
  · obtain ⟨z, z1, z2, z3, z4, z5, z6⟩ := pp_feedM (a := a) (b := b) (c := c) (d := d) (e := e) k9 hT20
    have hx : x = pp_tp x T (x.1 2) := by
      unfold pp_tp g_wa g_wi
      refine Prod.ext ?_ rfl
      funext i k
      by_cases h1 : i = 2
      · subst h1; simp
      · by_cases h2 : i = 1
        · subst h2
          by_cases hk : k = 1
          · subst hk; simp [upd, k8]
          · simp [upd, hk]
        · simp [h1, h2]
    have e1 : ∀ i, i ≠ 1 → i ≠ 2 → (pp_tp x (T + 20) (pp_f20 (x.1 2) T a b c d e)).1 i = x.1 i := fun i h1 h2 => by unfold pp_tp; rw [pp_c4 h2, pp_c1]; exact pp_c4 h1
    refine pp_fin (o := o) (r := nI (T + 20)) (x1 := pp_tp x (T + 20) (pp_f20 (x.1 2) T a b c d e)) (y1 := z) ?_ z6 z2 ?_
    · unfold f_L_feed f_X12_feed
      rw [k8, if_pos (show nI T ≤ (1980 : Int32) from nI_le (b := 1980) (by omega) (by omega))]
      conv => lhs; rw [hx]
      rw [pp_ap (by omega), pp_b, pp_ap (by omega), pp_b, pp_ap (by omega), pp_b, pp_ap (by omega), pp_b, pp_ap (by omega), pp_b, pp_tp1]
      rfl
    · have hq := pp_eq20 (T := T) (f := x.1 2) (g := y 121) k10 a b c d e
      refine ⟨A, b0, v, R, Z, nr, T + 20, hA, ⟨k1, k2, k3, k4, by rw [e1 b0 (by omega) (by omega)]; exact k5, by rw [z4 127 (by omega) (by omega) (by omega)]; exact k6, hT20, pp_tp1, z1, ?_, by rw [e1 0 (by omega) (by omega), z3 3 (by omega) (by omega)]; exact k11⟩, ?_, ?_, ?_, ?_, ?_⟩
      · rw [pp_tp2, z5]; exact hq
      · obtain ⟨v1, v2, v3, v4⟩ := hC
        refine ⟨v1, by rw [e1 v (by omega) (by omega)]; exact v2, fun i hi => ⟨?_, ?_, ?_⟩, v4.e (e1 _ (by omega) (by omega)) (e1 _ (by omega) (by omega))⟩
        · rw [e1 _ (by unfold pp_wd; omega) (by unfold pp_wd; omega)]; exact (v3 i hi).1
        · rw [e1 _ (by unfold pp_wd; omega) (by unfold pp_wd; omega)]; exact (v3 i hi).2.1
        · exact (v3 i hi).2.2.e (e1 _ (by unfold pp_wd; omega) (by unfold pp_wd; omega)) (e1 _ (by unfold pp_wd; omega) (by unfold pp_wd; omega))
      · exact hM.e (by rw [z4 127 (by omega) (by omega) (by omega)]) (by rw [z4 127 (by omega) (by omega) (by omega)]) (z4 _ (by omega) (by omega) (by omega)) (z4 _ (by omega) (by omega) (by omega)) (z4 _ (by omega) (by omega) (by omega))
      · rw [e1 v (by omega) (by omega), z4 152 (by omega) (by omega) (by omega)]; exact h3
      · rw [e1 v (by omega) (by omega), z4 152 (by omega) (by omega) (by omega)]; exact h4
      · obtain ⟨b1, b2, b3, b4, b5, b6, b7, b8⟩ := hB
        refine ⟨b1, b2, b3, by rw [e1 b0 (by omega) (by omega)]; exact b4, by rw [z4 127 (by omega) (by omega) (by omega)]; exact b5, by rw [e1 b0 (by omega) (by omega)]; exact b6, b7.e (fun i _ _ => e1 i (by omega) (by omega)) rfl (fun i _ _ => z4 i (by omega) (by omega) (by omega)), fun k hk => (b8 k hk).e (by omega) (fun i _ _ => e1 i (by omega) (by omega)) rfl (fun i _ _ => z4 i (by omega) (by omega) (by omega))⟩
  · refine pp_thr (u := 0) (o := o) (r := 0) (k := 1) h0 (by decide) ?_ ?_
    · unfold f_L_feed f_X12_feed
      rw [k8, if_neg (show ¬ nI T ≤ (1980 : Int32) from nI_ge (a := 1980) (by omega) (by omega))]
      rfl
    · unfold f_X15_feed
      rw [if_neg (show ¬ ((g_mi y 120 0 0) 120 2) + 20 ≤ 2000 by rw [pp_thn (by omega), k9]; rw [show nI T + (20 : Int32) = nI (T + 20) from nI_add T 20]; exact nI_ge (a := 2000) (by omega) (by omega))]
      rfl
