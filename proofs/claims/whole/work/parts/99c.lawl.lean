/-! the law: its loop -/
section GLW
variable {p : Program} {l : Launch} {e : Env} {s : State} {m : MethodId} {below : List Frame} {meth : Method} {c : Code} {H : Heap} {locs : List Loc} {cells slots : Nat} {Q : State → Prop} {G : GL} {b L : Nat} {xs : Nat → Int32} {x : CS} {y : MS} {o : Nat → Int32} {ls : Array Slot} {i : Int32}
theorem g_in6 {j L t : Nat} (h : 6 * j + 6 ≤ L) (hL : L ≤ 3072) (ht : t ≤ 5) : vp_in (nI (6 * j) + nI t) L := by
  rw [nI_add]
  intro q
  rcases q with q | q
  · exact nI_pos (by omega) q
  · rw [nI_clamp (by omega)] at q
    omega
theorem g_gt6 {j L : Nat} (hL : L ≤ 3072) (hj : 6 * j ≤ 4000) (h : ¬ nI L - 6 < nI (6 * j)) : 6 * j + 6 ≤ L := by
  rcases Nat.lt_or_ge L (6 * j + 6) with q | q
  · refine absurd (Int32.lt_iff_toInt_lt.mpr ?_) h
    rw [show (6 : Int32) = nI 6 from rfl, pk_sub_toInt (by omega) (by omega), nI_toInt (by omega)]
    omega
  · exact q
set_option maxRecDepth 100000 in
set_option maxHeartbeats 4000000 in
theorem w_L_loop (hfl : l.stackTraces = false) (hnc : g_NC s) (hX : va_X b L xs s s.heap) (hbl : b < s.heap.size) (hbA : ¬ g_A G b) (C0 : g_X G (List.range 162) p s m #[.ref b] meth c cL_law 9 RL ret) (hL : L ≤ 3072) (KE : ∀ (H' : Heap) (locs' : List Loc) (ls' : Array Slot), va_S (g_A G) s.heap H' locs' → W p l e room_1 s m #[.ref b] below meth c H' locs' 601024 7293034 Q (F0 m 1920 ls' [.int 1])) : ∀ (d j : Nat) (cells slots : Nat) (x : CS) (y : MS) (o : Nat → Int32) (H : Heap) (locs : List Loc) (ls : Array Slot), d = 512 - j → 6 * j ≤ 3072 → cells + 900 * d ≤ 601024 → slots + 13000 * d ≤ 7293034 → pp_R x y → g_W G (List.range 162) (x, y, o) s.heap H locs → lv_has ls 9 (g_LV G b (nI (6 * j))) → W p l e room_1 s m #[.ref b] below meth c H locs cells slots Q (F0 m 23 ls []) := by
  intro d
  induction d with
  | zero =>
    intro j cells slots x y o H locs ls hd hj hcl hsl hR hW hl
    refine lv_iload C0.hx C0.hb dL_law_23 (lv_at hl 4 rfl) ?_
    refine lv_aload_n C0.hx C0.hb dL_law_25 rfl (lv_at hl 0 rfl) ?_
    refine va_slen C0.hx C0.hb hX hbl hbA hW.2.2 dL_law_26 ?_
    refine lv_bipush (v := (6 : Int32)) C0.hx C0.hb dL_law_27 (by decide) ?_
    refine lv_isub C0.hx C0.hb dL_law_29 ?_
    refine lv_icmp_gt (tgt := 1919) C0.hx C0.hb dL_law_30 (by decide) (fun hc => ?_) (fun hc => ?_)
    · refine lv_iconst (v := (1 : Int32)) C0.hx C0.hb dL_law_1919 (by decide) ?_
      refine W.widen (k := 601024) (n := 7293034) (by omega) (by omega) ?_
      exact KE H locs ls hW.2.2
    · exact absurd (g_gt6 (j := j) (L := L) hL (by omega) hc) (by omega)
  | succ d ih =>
    intro j cells slots x y o H locs ls hd hj hcl hsl hR hW hl
    refine lv_iload C0.hx C0.hb dL_law_23 (lv_at hl 4 rfl) ?_
    refine lv_aload_n C0.hx C0.hb dL_law_25 rfl (lv_at hl 0 rfl) ?_
    refine va_slen C0.hx C0.hb hX hbl hbA hW.2.2 dL_law_26 ?_
    refine lv_bipush (v := (6 : Int32)) C0.hx C0.hb dL_law_27 (by decide) ?_
    refine lv_isub C0.hx C0.hb dL_law_29 ?_
    refine lv_icmp_gt (tgt := 1919) C0.hx C0.hb dL_law_30 (by decide) (fun hc => ?_) (fun hc => ?_)
    · refine lv_iconst (v := (1 : Int32)) C0.hx C0.hb dL_law_1919 (by decide) ?_
      refine W.widen (k := 601024) (n := 7293034) (by omega) (by omega) ?_
      exact KE H locs ls hW.2.2
    have h6 : 6 * j + 6 ≤ L := g_gt6 hL (by omega) hc
    have hin : ∀ t : Nat, t ≤ 5 → vp_in (nI (6 * j) + nI t) L := fun t ht => g_in6 h6 hL ht
    have K : ∀ (x' : CS) (y' : MS) (o' : Nat → Int32) (H' : Heap) (locs' : List Loc) (ls' : Array Slot), pp_R x' y' → g_W G (List.range 162) (x', y', o') s.heap H' locs' → lv_has ls' 9 (g_LV G b (nI (6 * j))) → W p l e room_1 s m #[.ref b] below meth c H' locs' (cells + 900) (slots + 13000) Q (F0 m 1913 ls' []) := by
      intro x' y' o' H' locs' ls' hR hW hl
      refine lv_iinc (v := nI (6 * (j + 1))) (lv' := [(4, .int (nI (6 * (j + 1)))), (0, .ref b), (1, .ref (g_ad G 0)), (2, .ref (g_ad G 120)), (3, .ref (g_ad G 161))]) C0.hx C0.hb dL_law_1913 hl (k := 4) rfl (show nI (6 * j) + nI 6 = nI (6 * (j + 1)) by rw [nI_add]; rfl) (by decide) rfl (fun ls hl => ?_)
      refine lv_goto (tgt := 23) C0.hx C0.hb dL_law_1916 (by decide) ?_
      exact ih (j + 1) (cells + 900) (slots + 13000) x' y' o' H' locs' ls (by omega) (by omega) (by omega) (by omega) hR hW (lv_sub hl [1, 2, 3, 4, 0] rfl)
    refine lv_aload_n C0.hx C0.hb dL_law_33 rfl (lv_at hl 0 rfl) ?_
    refine lv_iload C0.hx C0.hb dL_law_34 (lv_at hl 4 rfl) ?_
    refine va_sld C0.hx C0.hb hX hbl hbA hW.2.2 (by have := hin 0 (by decide); rwa [show nI (6 * j) + nI 0 = nI (6 * j) by rw [nI_add]; rfl] at this) dL_law_36 ?_
    refine lv_bipush (v := (63 : Int32)) C0.hx C0.hb dL_law_37 (by decide) ?_
    refine lv_iand C0.hx C0.hb dL_law_39 ?_
    obtain ⟨v, hv, hve⟩ := pk_andE (xs (nI (6 * j)).toNatClampNeg) (m := (63 : Int32)) 6 (by decide)
    rw [hve]
    rcases (show v = 0 ∨ v = 1 ∨ v = 2 ∨ v = 3 ∨ v = 4 ∨ v = 5 ∨ v = 6 ∨ v = 7 ∨ v = 8 ∨ v = 9 ∨ v = 10 ∨ v = 11 ∨ v = 12 ∨ v = 13 ∨ v = 14 ∨ v = 15 ∨ v = 16 ∨ v = 17 ∨ v = 18 ∨ v = 19 ∨ v = 20 ∨ v = 21 ∨ v = 22 ∨ v = 23 ∨ v = 24 ∨ v = 25 ∨ v = 26 ∨ v = 27 ∨ v = 28 ∨ v = 29 ∨ v = 30 ∨ v = 31 ∨ v = 32 ∨ v = 33 ∨ v = 34 ∨ v = 35 ∨ v = 36 ∨ 36 < v by omega) with rfl | rfl | rfl | rfl | rfl | rfl | rfl | rfl | rfl | rfl | rfl | rfl | rfl | rfl | rfl | rfl | rfl | rfl | rfl | rfl | rfl | rfl | rfl | rfl | rfl | rfl | rfl | rfl | rfl | rfl | rfl | rfl | rfl | rfl | rfl | rfl | rfl | hv
    · refine lv_tableIn (off := 164) (tgt := 204) C0.hx C0.hb dL_law_40 (by decide) (by decide) (by decide) (by decide) ?_
      exact w_L_feed C0 hW hR hl (by omega) (by omega) hfl hnc hX hbl hbA hin K
    · refine lv_tableIn (off := 268) (tgt := 308) C0.hx C0.hb dL_law_40 (by decide) (by decide) (by decide) (by decide) ?_
      exact w_L_trim C0 hW hR hl (by omega) (by omega) hfl hnc hX hbl hbA hin K
    · refine lv_tableIn (off := 324) (tgt := 364) C0.hx C0.hb dL_law_40 (by decide) (by decide) (by decide) (by decide) ?_
      exact w_L_teach C0 hW hR hl (by omega) (by omega) K
    · refine lv_tableIn (off := 337) (tgt := 377) C0.hx C0.hb dL_law_40 (by decide) (by decide) (by decide) (by decide) ?_
      exact w_L_errorAt C0 hW hR hl (by omega) (by omega) K
    · refine lv_tableIn (off := 350) (tgt := 390) C0.hx C0.hb dL_law_40 (by decide) (by decide) (by decide) (by decide) ?_
      exact w_L_words C0 hW hR hl (by omega) (by omega) K
    · refine lv_tableIn (off := 363) (tgt := 403) C0.hx C0.hb dL_law_40 (by decide) (by decide) (by decide) (by decide) ?_
      exact w_L_keptWords C0 hW hR hl (by omega) (by omega) K
    · refine lv_tableIn (off := 376) (tgt := 416) C0.hx C0.hb dL_law_40 (by decide) (by decide) (by decide) (by decide) ?_
      exact w_L_rules C0 hW hR hl (by omega) (by omega) K
    · refine lv_tableIn (off := 389) (tgt := 429) C0.hx C0.hb dL_law_40 (by decide) (by decide) (by decide) (by decide) ?_
      exact w_L_lessons C0 hW hR hl (by omega) (by omega) K
    · refine lv_tableIn (off := 402) (tgt := 442) C0.hx C0.hb dL_law_40 (by decide) (by decide) (by decide) (by decide) ?_
      exact w_L_rulesCarriedOut C0 hW hR hl (by omega) (by omega) K
    · refine lv_tableIn (off := 415) (tgt := 455) C0.hx C0.hb dL_law_40 (by decide) (by decide) (by decide) (by decide) ?_
      exact w_L_heardBeats C0 hW hR hl (by omega) (by omega) K
    · refine lv_tableIn (off := 428) (tgt := 468) C0.hx C0.hb dL_law_40 (by decide) (by decide) (by decide) (by decide) ?_
      exact w_L_lengthOf C0 hW hR hl (by omega) (by omega) hfl hnc hX hbl hbA hin K
    · refine lv_tableIn (off := 484) (tgt := 524) C0.hx C0.hb dL_law_40 (by decide) (by decide) (by decide) (by decide) ?_
      exact w_L_pitchAt C0 hW hR hl (by omega) (by omega) hfl hnc hX hbl hbA hin K
    · refine lv_tableIn (off := 552) (tgt := 592) C0.hx C0.hb dL_law_40 (by decide) (by decide) (by decide) (by decide) ?_
      exact w_L_contourAt C0 hW hR hl (by omega) (by omega) hfl hnc hX hbl hbA hin K
    · refine lv_tableIn (off := 620) (tgt := 660) C0.hx C0.hb dL_law_40 (by decide) (by decide) (by decide) (by decide) ?_
      exact w_L_isPruned C0 hW hR hl (by omega) (by omega) hfl hnc hX hbl hbA hin K
    · refine lv_tableIn (off := 683) (tgt := 723) C0.hx C0.hb dL_law_40 (by decide) (by decide) (by decide) (by decide) ?_
      exact w_L_silentBeats C0 hW hR hl (by omega) (by omega) hfl hnc hX hbl hbA hin K
    · refine lv_tableIn (off := 739) (tgt := 779) C0.hx C0.hb dL_law_40 (by decide) (by decide) (by decide) (by decide) ?_
      exact w_L_distanceBetween C0 hW hR hl (by omega) (by omega) hfl hnc hX hbl hbA hin K
    · refine lv_tableIn (off := 807) (tgt := 847) C0.hx C0.hb dL_law_40 (by decide) (by decide) (by decide) (by decide) ?_
      exact w_L_contourBetween C0 hW hR hl (by omega) (by omega) hfl hnc hX hbl hbA hin K
    · refine lv_tableIn (off := 875) (tgt := 915) C0.hx C0.hb dL_law_40 (by decide) (by decide) (by decide) (by decide) ?_
      exact w_L_areNear C0 hW hR hl (by omega) (by omega) hfl hnc hX hbl hbA hin K
    · refine lv_tableIn (off := 950) (tgt := 990) C0.hx C0.hb dL_law_40 (by decide) (by decide) (by decide) (by decide) ?_
      exact w_L_nearestTo C0 hW hR hl (by omega) (by omega) hfl hnc hX hbl hbA hin K
    · refine lv_tableIn (off := 1006) (tgt := 1046) C0.hx C0.hb dL_law_40 (by decide) (by decide) (by decide) (by decide) ?_
      exact w_L_isNeedless C0 hW hR hl (by omega) (by omega) hfl hnc hX hbl hbA hin K
    · refine lv_tableIn (off := 1069) (tgt := 1109) C0.hx C0.hb dL_law_40 (by decide) (by decide) (by decide) (by decide) ?_
      exact w_L_heardPitch C0 hW hR hl (by omega) (by omega) hfl hnc hX hbl hbA hin K
    · refine lv_tableIn (off := 1125) (tgt := 1165) C0.hx C0.hb dL_law_40 (by decide) (by decide) (by decide) (by decide) ?_
      exact w_L_distanceTo C0 hW hR hl (by omega) (by omega) hfl hnc hX hbl hbA hin K
    · refine lv_tableIn (off := 1181) (tgt := 1221) C0.hx C0.hb dL_law_40 (by decide) (by decide) (by decide) (by decide) ?_
      exact w_L_contourTo C0 hW hR hl (by omega) (by omega) hfl hnc hX hbl hbA hin K
    · refine lv_tableIn (off := 1237) (tgt := 1277) C0.hx C0.hb dL_law_40 (by decide) (by decide) (by decide) (by decide) ?_
      exact w_L_stepsTo C0 hW hR hl (by omega) (by omega) hfl hnc hX hbl hbA hin K
    · refine lv_tableIn (off := 1293) (tgt := 1333) C0.hx C0.hb dL_law_40 (by decide) (by decide) (by decide) (by decide) ?_
      exact w_L_meantWord C0 hW hR hl (by omega) (by omega) hfl hnc hX hbl hbA hin K
    · refine lv_tableIn (off := 1337) (tgt := 1377) C0.hx C0.hb dL_law_40 (by decide) (by decide) (by decide) (by decide) ?_
      exact w_L_surety C0 hW hR hl (by omega) (by omega) hfl hnc hX hbl hbA hin K
    · refine lv_tableIn (off := 1381) (tgt := 1421) C0.hx C0.hb dL_law_40 (by decide) (by decide) (by decide) (by decide) ?_
      exact w_L_hear C0 hW hR hl (by omega) (by omega) hfl hnc hX hbl hbA hin K
    · refine lv_tableIn (off := 1437) (tgt := 1477) C0.hx C0.hb dL_law_40 (by decide) (by decide) (by decide) (by decide) ?_
      exact w_L_hearWord C0 hW hR hl (by omega) (by omega) hfl hnc hX hbl hbA hin K
    · refine lv_tableIn (off := 1505) (tgt := 1545) C0.hx C0.hb dL_law_40 (by decide) (by decide) (by decide) (by decide) ?_
      exact w_L_forget C0 hW hR hl (by omega) (by omega) K
    · refine lv_tableIn (off := 1518) (tgt := 1558) C0.hx C0.hb dL_law_40 (by decide) (by decide) (by decide) (by decide) ?_
      exact w_L_turnPruned C0 hW hR hl (by omega) (by omega) hfl hnc hX hbl hbA hin K
    · refine lv_tableIn (off := 1581) (tgt := 1621) C0.hx C0.hb dL_law_40 (by decide) (by decide) (by decide) (by decide) ?_
      exact w_L_pruneNeedless C0 hW hR hl (by omega) (by omega) K
    · refine lv_tableIn (off := 1594) (tgt := 1634) C0.hx C0.hb dL_law_40 (by decide) (by decide) (by decide) (by decide) ?_
      exact w_L_passLessons C0 hW hR hl (by omega) (by omega) hfl hnc hX hbl hbA hin K
    · refine lv_tableIn (off := 1650) (tgt := 1690) C0.hx C0.hb dL_law_40 (by decide) (by decide) (by decide) (by decide) ?_
      exact w_L_keptAfter C0 hW hR hl (by omega) (by omega) hfl hnc hX hbl hbA hin K
    · refine lv_tableIn (off := 1706) (tgt := 1746) C0.hx C0.hb dL_law_40 (by decide) (by decide) (by decide) (by decide) ?_
      exact w_L_lessonsUntilMeant C0 hW hR hl (by omega) (by omega) hfl hnc hX hbl hbA hin K
    · refine lv_tableIn (off := 1762) (tgt := 1802) C0.hx C0.hb dL_law_40 (by decide) (by decide) (by decide) (by decide) ?_
      exact w_L_bestShift C0 hW hR hl (by omega) (by omega) hfl hnc hX hbl hbA hin K
    · refine lv_tableIn (off := 1818) (tgt := 1858) C0.hx C0.hb dL_law_40 (by decide) (by decide) (by decide) (by decide) ?_
      exact w_L_meanLength C0 hW hR hl (by omega) (by omega) K
    · refine lv_tableIn (off := 1859) (tgt := 1899) C0.hx C0.hb dL_law_40 (by decide) (by decide) (by decide) (by decide) ?_
      exact w_L_digest C0 hW hR hl (by omega) (by omega) K
    · refine lv_tableOut (tgt := 1913) C0.hx C0.hb dL_law_40 (Or.inr (by rw [nI_toInt (by omega)]; omega)) (by decide) ?_
      refine W.widen (k := cells + 900) (n := slots + 13000) (by omega) (by omega) ?_
      exact K x y o H locs ls hR hW hl
end GLW
