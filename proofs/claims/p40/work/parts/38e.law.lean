set_option maxRecDepth 100000 in
set_option maxHeartbeats 4000000 in
theorem c_l_X14_value {l : Launch} {G : GL} {o : Nat → Int32} {x : CS} : ∀ (n : Nat) (t : Nat) (p1 : Nat) (y : MS) (q : Int32 × MS), f_l_X14_value n t p1 y = some q → Met l yX14_value (.code yX14_value cX14_value 2 (Option.some Jvm.ClassFile.FieldType.int) :: gT) (h_lv (20 + 4 * n) y) (va_Pc [g_rf G (t), g_rf G (p1)] (h_P G (x, y, o))) (h_Qi G y q.1 (x, q.2, o)) (h_nx q.2 - h_nx y) (h_sl q.2 - h_sl y) (g_A G) := by
  intro n
  induction n with
  | zero =>
    intro t p1 y q h
    exact absurd h (by simp [f_l_X14_value])
  | succ n ihn =>
    intro t p1 y q h
    unfold f_l_X14_value at h
    refine h_entry (by decide) (by simp [lg_sl, g_catQ, h_ki, h_kr, h_kn, h_kl, h_kd]) (fun p e s m args below meth c ls C0 hl hW hin_ => ?_)
    have hl : lv_has ls 2 [(0, g_rf G (t)), (1, g_rf G (p1))] := by simpa [lv_args, g_catQ, h_ki, h_kr, h_kn, h_kl, h_kd] using hl
    refine h_aload_n C0.hx C0.hb dX14_value_0 rfl (lv_at hl 0 rfl) ?_
    obtain ⟨hk1, h⟩ := g_if h
    refine hf_X14_0 C0 hW hk1 tf_X14_7 dX14_value_1 ?_
    by_cases hc2 : (h_I y t 0) = (0 : Int32)
    · replace h := (if_pos hc2).symm.trans h
      refine lv_tableIn (tgt := 100) C0.hx C0.hb dX14_value_4 (by rw [hc2]; decide) (by rw [hc2]; decide) (by rw [hc2]; rfl) (by decide) ?_
      refine h_aload_n C0.hx C0.hb dX14_value_100 rfl (lv_at hl 0 rfl) ?_
      refine hf_X14_1 C0 hW hk1 tf_X14_13 dX14_value_101 ?_
      obtain rfl := Option.some.inj h
      exact h_iret C0 hW rfl rfl dX14_value_104
    · replace h := (if_neg hc2).symm.trans h
      by_cases hc3 : (h_I y t 0) = (1 : Int32)
      · replace h := (if_pos hc3).symm.trans h
        refine lv_tableIn (tgt := 105) C0.hx C0.hb dX14_value_4 (by rw [hc3]; decide) (by rw [hc3]; decide) (by rw [hc3]; rfl) (by decide) ?_
        refine h_aload_n C0.hx C0.hb dX14_value_105 rfl (lv_at hl 1 rfl) ?_
        obtain ⟨hk118, h⟩ := g_if h
        refine hf_X16_5 C0 hW hk118 tf_X14_101 dX14_value_106 ?_
        obtain rfl := Option.some.inj h
        exact h_iret C0 hW rfl rfl dX14_value_109
      · replace h := (if_neg hc3).symm.trans h
        by_cases hc4 : (h_I y t 0) = (2 : Int32)
        · replace h := (if_pos hc4).symm.trans h
          refine lv_tableIn (tgt := 110) C0.hx C0.hb dX14_value_4 (by rw [hc4]; decide) (by rw [hc4]; decide) (by rw [hc4]; rfl) (by decide) ?_
          refine h_aload_n C0.hx C0.hb dX14_value_110 rfl (lv_at hl 1 rfl) ?_
          obtain ⟨hk116, h⟩ := g_if h
          obtain ⟨q117, hq117, h⟩ := Option.bind_eq_some_iff.mp h
          refine h_calli hW (h_runV (As := []) (rest := []) C0 hW (hW.rf (h_ne hk116 (by decide))) (h_recv C0 hW (h_ne hk116 (by decide)) (h_c53 hk116) rfl) (c_l_X16_kept hq117) cy_X16_kept (by omega) tm_X14_106 ti_X16_kept ts_X16_kept rfl hl.1 rfl (Nat.le_of_ble_eq_true rfl) dX14_value_111) (fun H locs hW => ?_)
          obtain rfl := Option.some.inj h
          exact h_iret C0 hW rfl rfl dX14_value_114
        · replace h := (if_neg hc4).symm.trans h
          by_cases hc5 : (h_I y t 0) = (3 : Int32)
          · replace h := (if_pos hc5).symm.trans h
            refine lv_tableIn (tgt := 115) C0.hx C0.hb dX14_value_4 (by rw [hc5]; decide) (by rw [hc5]; decide) (by rw [hc5]; rfl) (by decide) ?_
            refine h_aload_n C0.hx C0.hb dX14_value_115 rfl (lv_at hl 1 rfl) ?_
            obtain ⟨hk110, h⟩ := g_if h
            refine hf_X16_4 C0 hW hk110 tf_X14_109 dX14_value_116 ?_
            obtain ⟨hk111, h⟩ := g_if h
            refine hl_60 C0 hW hk111 dX14_value_119 ?_
            refine lv_if_ne (tgt := 129) C0.hx C0.hb dX14_value_120 (by decide) (fun hc112 => ?_) (fun hc112 => ?_)
            · replace h := (if_neg hc112).symm.trans h
              refine h_aload_n C0.hx C0.hb dX14_value_129 rfl (lv_at hl 1 rfl) ?_
              refine h_aload_n C0.hx C0.hb dX14_value_130 rfl (lv_at hl 1 rfl) ?_
              refine hf_X16_2 C0 hW hk110 tf_X14_113 dX14_value_131 ?_
              refine h_aload_n C0.hx C0.hb dX14_value_134 rfl (lv_at hl 0 rfl) ?_
              refine hf_X14_1 C0 hW hk1 tf_X14_13 dX14_value_135 ?_
              obtain ⟨hk113, h⟩ := g_if h
              obtain ⟨hn114, h⟩ := g_if h
              refine ha_63 C0 hW hk113 hn114 dX14_value_138 ?_
              refine h_aload_n C0.hx C0.hb dX14_value_139 rfl (lv_at hl 1 rfl) ?_
              refine hf_X16_4 C0 hW hk110 tf_X14_109 dX14_value_140 ?_
              obtain ⟨q115, hq115, h⟩ := Option.bind_eq_some_iff.mp h
              refine h_calli hW (h_runV (As := [g_rf G (h_R y (h_R y p1 2) (h_I y t 1).toNatClampNeg), g_rf G (h_R y p1 4)]) (rest := []) C0 hW (hW.rf (h_ne hk110 (by decide))) (h_recv C0 hW (h_ne hk110 (by decide)) (h_c53 hk110) rfl) (c_l_X16_far hq115) cy_X16_far (by omega) tm_X14_117 ti_X16_far ts_X16_far rfl hl.1 rfl (Nat.le_of_ble_eq_true rfl) dX14_value_143) (fun H locs hW => ?_)
              obtain rfl := Option.some.inj h
              exact h_iret C0 hW rfl rfl dX14_value_146
            · replace h := (if_pos hc112).symm.trans h
              refine lv_sipush (v := (999 : Int32)) C0.hx C0.hb dX14_value_123 (by decide) ?_
              refine lv_goto (tgt := 146) C0.hx C0.hb dX14_value_126 (by decide) ?_
              obtain rfl := Option.some.inj h
              exact h_iret C0 hW rfl rfl dX14_value_146
          · replace h := (if_neg hc5).symm.trans h
            by_cases hc6 : (h_I y t 0) = (4 : Int32)
            · replace h := (if_pos hc6).symm.trans h
              refine lv_tableIn (tgt := 147) C0.hx C0.hb dX14_value_4 (by rw [hc6]; decide) (by rw [hc6]; decide) (by rw [hc6]; rfl) (by decide) ?_
              refine h_aload_n C0.hx C0.hb dX14_value_147 rfl (lv_at hl 1 rfl) ?_
              obtain ⟨hk106, h⟩ := g_if h
              refine hf_X16_2 C0 hW hk106 tf_X14_113 dX14_value_148 ?_
              refine h_aload_n C0.hx C0.hb dX14_value_151 rfl (lv_at hl 0 rfl) ?_
              refine hf_X14_1 C0 hW hk1 tf_X14_13 dX14_value_152 ?_
              obtain ⟨hk107, h⟩ := g_if h
              obtain ⟨hn108, h⟩ := g_if h
              refine ha_63 C0 hW hk107 hn108 dX14_value_155 ?_
              obtain ⟨hk109, h⟩ := g_if h
              refine hl_60 C0 hW hk109 dX14_value_156 ?_
              obtain rfl := Option.some.inj h
              exact h_iret C0 hW rfl rfl dX14_value_157
            · replace h := (if_neg hc6).symm.trans h
              by_cases hc7 : (h_I y t 0) = (5 : Int32)
              · replace h := (if_pos hc7).symm.trans h
                refine lv_tableIn (tgt := 158) C0.hx C0.hb dX14_value_4 (by rw [hc7]; decide) (by rw [hc7]; decide) (by rw [hc7]; rfl) (by decide) ?_
                refine lv_iconst (v := (0 : Int32)) C0.hx C0.hb dX14_value_158 (by decide) ?_
                refine h_aload_n C0.hx C0.hb dX14_value_159 rfl (lv_at hl 0 rfl) ?_
                refine hf_X14_2 C0 hW hk1 tf_X14_16 dX14_value_160 ?_
                refine h_aload_n C0.hx C0.hb dX14_value_163 rfl (lv_at hl 1 rfl) ?_
                obtain ⟨hk104, h⟩ := g_if h
                obtain ⟨q105, hq105, h⟩ := Option.bind_eq_some_iff.mp h
                refine h_calli hW (h_runV (As := [g_rf G (p1)]) (rest := [.int ((0 : Int32))]) C0 hW (hW.rf (h_ne hk104 (by decide))) (h_recv C0 hW (h_ne hk104 (by decide)) (h_c51 hk104) rfl) (ihn _ _ _ _ hq105) cy_X14_value (by omega) tm_X14_121 ti_X14_value ts_X14_value rfl hl.1 rfl (Nat.le_of_ble_eq_true rfl) dX14_value_164) (fun H locs hW => ?_)
                refine lv_isub C0.hx C0.hb dX14_value_167 ?_
                obtain rfl := Option.some.inj h
                exact h_iret C0 hW rfl rfl dX14_value_168
              · replace h := (if_neg hc7).symm.trans h
                by_cases hc8 : (h_I y t 0) = (6 : Int32)
                · replace h := (if_pos hc8).symm.trans h
                  refine lv_tableIn (tgt := 216) C0.hx C0.hb dX14_value_4 (by rw [hc8]; decide) (by rw [hc8]; decide) (by rw [hc8]; rfl) (by decide) ?_
                  refine h_aload_n C0.hx C0.hb dX14_value_216 rfl (lv_at hl 0 rfl) ?_
                  refine hf_X14_0 C0 hW hk1 tf_X14_7 dX14_value_217 ?_
                  refine h_aload_n C0.hx C0.hb dX14_value_220 rfl (lv_at hl 0 rfl) ?_
                  refine hf_X14_2 C0 hW hk1 tf_X14_16 dX14_value_221 ?_
                  refine h_aload_n C0.hx C0.hb dX14_value_224 rfl (lv_at hl 1 rfl) ?_
                  obtain ⟨hk98, h⟩ := g_if h
                  obtain ⟨q99, hq99, h⟩ := Option.bind_eq_some_iff.mp h
                  refine h_calli hW (h_runV (As := [g_rf G (p1)]) (rest := [.int (h_I y t 0)]) C0 hW (hW.rf (h_ne hk98 (by decide))) (h_recv C0 hW (h_ne hk98 (by decide)) (h_c51 hk98) rfl) (ihn _ _ _ _ hq99) cy_X14_value (by omega) tm_X14_121 ti_X14_value ts_X14_value rfl hl.1 rfl (Nat.le_of_ble_eq_true rfl) dX14_value_225) (fun H locs hW => ?_)
                  refine h_aload_n C0.hx C0.hb dX14_value_228 rfl (lv_at hl 0 rfl) ?_
                  obtain ⟨hk100, h⟩ := g_if h
                  refine hf_X14_3 C0 hW hk100 tf_X14_20 dX14_value_229 ?_
                  refine h_aload_n C0.hx C0.hb dX14_value_232 rfl (lv_at hl 1 rfl) ?_
                  obtain ⟨hk101, h⟩ := g_if h
                  obtain ⟨q102, hq102, h⟩ := Option.bind_eq_some_iff.mp h
                  refine h_calli hW (h_runV (As := [g_rf G (p1)]) (rest := [.int (q99.1), .int (h_I y t 0)]) C0 hW (hW.rf (h_ne hk101 (by decide))) (h_recv C0 hW (h_ne hk101 (by decide)) (h_c51 hk101) rfl) (ihn _ _ _ _ hq102) cy_X14_value (by omega) tm_X14_121 ti_X14_value ts_X14_value rfl hl.1 rfl (Nat.le_of_ble_eq_true rfl) dX14_value_233) (fun H locs hW => ?_)
                  obtain ⟨q103, hq103, h⟩ := Option.bind_eq_some_iff.mp h
                  refine h_calli hW (h_runS (As := [.int (h_I y t 0), .int (q99.1), .int (q102.1)]) (rest := []) C0 hW (c_l_X14_both hq103) cy_X14_both (by omega) tm_X14_132 tz_X14_both rfl hl.1 rfl (Nat.le_of_ble_eq_true rfl) dX14_value_236) (fun H locs hW => ?_)
                  obtain rfl := Option.some.inj h
                  exact h_iret C0 hW rfl rfl dX14_value_239
                · replace h := (if_neg hc8).symm.trans h
                  by_cases hc9 : (h_I y t 0) = (7 : Int32)
                  · replace h := (if_pos hc9).symm.trans h
                    refine lv_tableIn (tgt := 216) C0.hx C0.hb dX14_value_4 (by rw [hc9]; decide) (by rw [hc9]; decide) (by rw [hc9]; rfl) (by decide) ?_
                    refine h_aload_n C0.hx C0.hb dX14_value_216 rfl (lv_at hl 0 rfl) ?_
                    refine hf_X14_0 C0 hW hk1 tf_X14_7 dX14_value_217 ?_
                    refine h_aload_n C0.hx C0.hb dX14_value_220 rfl (lv_at hl 0 rfl) ?_
                    refine hf_X14_2 C0 hW hk1 tf_X14_16 dX14_value_221 ?_
                    refine h_aload_n C0.hx C0.hb dX14_value_224 rfl (lv_at hl 1 rfl) ?_
                    obtain ⟨hk92, h⟩ := g_if h
                    obtain ⟨q93, hq93, h⟩ := Option.bind_eq_some_iff.mp h
                    refine h_calli hW (h_runV (As := [g_rf G (p1)]) (rest := [.int (h_I y t 0)]) C0 hW (hW.rf (h_ne hk92 (by decide))) (h_recv C0 hW (h_ne hk92 (by decide)) (h_c51 hk92) rfl) (ihn _ _ _ _ hq93) cy_X14_value (by omega) tm_X14_121 ti_X14_value ts_X14_value rfl hl.1 rfl (Nat.le_of_ble_eq_true rfl) dX14_value_225) (fun H locs hW => ?_)
                    refine h_aload_n C0.hx C0.hb dX14_value_228 rfl (lv_at hl 0 rfl) ?_
                    obtain ⟨hk94, h⟩ := g_if h
                    refine hf_X14_3 C0 hW hk94 tf_X14_20 dX14_value_229 ?_
                    refine h_aload_n C0.hx C0.hb dX14_value_232 rfl (lv_at hl 1 rfl) ?_
                    obtain ⟨hk95, h⟩ := g_if h
                    obtain ⟨q96, hq96, h⟩ := Option.bind_eq_some_iff.mp h
                    refine h_calli hW (h_runV (As := [g_rf G (p1)]) (rest := [.int (q93.1), .int (h_I y t 0)]) C0 hW (hW.rf (h_ne hk95 (by decide))) (h_recv C0 hW (h_ne hk95 (by decide)) (h_c51 hk95) rfl) (ihn _ _ _ _ hq96) cy_X14_value (by omega) tm_X14_121 ti_X14_value ts_X14_value rfl hl.1 rfl (Nat.le_of_ble_eq_true rfl) dX14_value_233) (fun H locs hW => ?_)
                    obtain ⟨q97, hq97, h⟩ := Option.bind_eq_some_iff.mp h
                    refine h_calli hW (h_runS (As := [.int (h_I y t 0), .int (q93.1), .int (q96.1)]) (rest := []) C0 hW (c_l_X14_both hq97) cy_X14_both (by omega) tm_X14_132 tz_X14_both rfl hl.1 rfl (Nat.le_of_ble_eq_true rfl) dX14_value_236) (fun H locs hW => ?_)
                    obtain rfl := Option.some.inj h
                    exact h_iret C0 hW rfl rfl dX14_value_239
                  · replace h := (if_neg hc9).symm.trans h
                    by_cases hc10 : (h_I y t 0) = (8 : Int32)
                    · replace h := (if_pos hc10).symm.trans h
                      refine lv_tableIn (tgt := 216) C0.hx C0.hb dX14_value_4 (by rw [hc10]; decide) (by rw [hc10]; decide) (by rw [hc10]; rfl) (by decide) ?_
                      refine h_aload_n C0.hx C0.hb dX14_value_216 rfl (lv_at hl 0 rfl) ?_
                      refine hf_X14_0 C0 hW hk1 tf_X14_7 dX14_value_217 ?_
                      refine h_aload_n C0.hx C0.hb dX14_value_220 rfl (lv_at hl 0 rfl) ?_
                      refine hf_X14_2 C0 hW hk1 tf_X14_16 dX14_value_221 ?_
                      refine h_aload_n C0.hx C0.hb dX14_value_224 rfl (lv_at hl 1 rfl) ?_
                      obtain ⟨hk86, h⟩ := g_if h
                      obtain ⟨q87, hq87, h⟩ := Option.bind_eq_some_iff.mp h
                      refine h_calli hW (h_runV (As := [g_rf G (p1)]) (rest := [.int (h_I y t 0)]) C0 hW (hW.rf (h_ne hk86 (by decide))) (h_recv C0 hW (h_ne hk86 (by decide)) (h_c51 hk86) rfl) (ihn _ _ _ _ hq87) cy_X14_value (by omega) tm_X14_121 ti_X14_value ts_X14_value rfl hl.1 rfl (Nat.le_of_ble_eq_true rfl) dX14_value_225) (fun H locs hW => ?_)
                      refine h_aload_n C0.hx C0.hb dX14_value_228 rfl (lv_at hl 0 rfl) ?_
                      obtain ⟨hk88, h⟩ := g_if h
                      refine hf_X14_3 C0 hW hk88 tf_X14_20 dX14_value_229 ?_
                      refine h_aload_n C0.hx C0.hb dX14_value_232 rfl (lv_at hl 1 rfl) ?_
                      obtain ⟨hk89, h⟩ := g_if h
                      obtain ⟨q90, hq90, h⟩ := Option.bind_eq_some_iff.mp h
                      refine h_calli hW (h_runV (As := [g_rf G (p1)]) (rest := [.int (q87.1), .int (h_I y t 0)]) C0 hW (hW.rf (h_ne hk89 (by decide))) (h_recv C0 hW (h_ne hk89 (by decide)) (h_c51 hk89) rfl) (ihn _ _ _ _ hq90) cy_X14_value (by omega) tm_X14_121 ti_X14_value ts_X14_value rfl hl.1 rfl (Nat.le_of_ble_eq_true rfl) dX14_value_233) (fun H locs hW => ?_)
                      obtain ⟨q91, hq91, h⟩ := Option.bind_eq_some_iff.mp h
                      refine h_calli hW (h_runS (As := [.int (h_I y t 0), .int (q87.1), .int (q90.1)]) (rest := []) C0 hW (c_l_X14_both hq91) cy_X14_both (by omega) tm_X14_132 tz_X14_both rfl hl.1 rfl (Nat.le_of_ble_eq_true rfl) dX14_value_236) (fun H locs hW => ?_)
                      obtain rfl := Option.some.inj h
                      exact h_iret C0 hW rfl rfl dX14_value_239
                    · replace h := (if_neg hc10).symm.trans h
                      by_cases hc11 : (h_I y t 0) = (9 : Int32)
                      · replace h := (if_pos hc11).symm.trans h
                        refine lv_tableIn (tgt := 216) C0.hx C0.hb dX14_value_4 (by rw [hc11]; decide) (by rw [hc11]; decide) (by rw [hc11]; rfl) (by decide) ?_
                        refine h_aload_n C0.hx C0.hb dX14_value_216 rfl (lv_at hl 0 rfl) ?_
                        refine hf_X14_0 C0 hW hk1 tf_X14_7 dX14_value_217 ?_
                        refine h_aload_n C0.hx C0.hb dX14_value_220 rfl (lv_at hl 0 rfl) ?_
                        refine hf_X14_2 C0 hW hk1 tf_X14_16 dX14_value_221 ?_
                        refine h_aload_n C0.hx C0.hb dX14_value_224 rfl (lv_at hl 1 rfl) ?_
                        obtain ⟨hk80, h⟩ := g_if h
                        obtain ⟨q81, hq81, h⟩ := Option.bind_eq_some_iff.mp h
                        refine h_calli hW (h_runV (As := [g_rf G (p1)]) (rest := [.int (h_I y t 0)]) C0 hW (hW.rf (h_ne hk80 (by decide))) (h_recv C0 hW (h_ne hk80 (by decide)) (h_c51 hk80) rfl) (ihn _ _ _ _ hq81) cy_X14_value (by omega) tm_X14_121 ti_X14_value ts_X14_value rfl hl.1 rfl (Nat.le_of_ble_eq_true rfl) dX14_value_225) (fun H locs hW => ?_)
                        refine h_aload_n C0.hx C0.hb dX14_value_228 rfl (lv_at hl 0 rfl) ?_
                        obtain ⟨hk82, h⟩ := g_if h
                        refine hf_X14_3 C0 hW hk82 tf_X14_20 dX14_value_229 ?_
                        refine h_aload_n C0.hx C0.hb dX14_value_232 rfl (lv_at hl 1 rfl) ?_
                        obtain ⟨hk83, h⟩ := g_if h
                        obtain ⟨q84, hq84, h⟩ := Option.bind_eq_some_iff.mp h
                        refine h_calli hW (h_runV (As := [g_rf G (p1)]) (rest := [.int (q81.1), .int (h_I y t 0)]) C0 hW (hW.rf (h_ne hk83 (by decide))) (h_recv C0 hW (h_ne hk83 (by decide)) (h_c51 hk83) rfl) (ihn _ _ _ _ hq84) cy_X14_value (by omega) tm_X14_121 ti_X14_value ts_X14_value rfl hl.1 rfl (Nat.le_of_ble_eq_true rfl) dX14_value_233) (fun H locs hW => ?_)
                        obtain ⟨q85, hq85, h⟩ := Option.bind_eq_some_iff.mp h
                        refine h_calli hW (h_runS (As := [.int (h_I y t 0), .int (q81.1), .int (q84.1)]) (rest := []) C0 hW (c_l_X14_both hq85) cy_X14_both (by omega) tm_X14_132 tz_X14_both rfl hl.1 rfl (Nat.le_of_ble_eq_true rfl) dX14_value_236) (fun H locs hW => ?_)
                        obtain rfl := Option.some.inj h
                        exact h_iret C0 hW rfl rfl dX14_value_239
                      · replace h := (if_neg hc11).symm.trans h
                        by_cases hc12 : (h_I y t 0) = (10 : Int32)
                        · replace h := (if_pos hc12).symm.trans h
                          refine lv_tableIn (tgt := 216) C0.hx C0.hb dX14_value_4 (by rw [hc12]; decide) (by rw [hc12]; decide) (by rw [hc12]; rfl) (by decide) ?_
                          refine h_aload_n C0.hx C0.hb dX14_value_216 rfl (lv_at hl 0 rfl) ?_
                          refine hf_X14_0 C0 hW hk1 tf_X14_7 dX14_value_217 ?_
                          refine h_aload_n C0.hx C0.hb dX14_value_220 rfl (lv_at hl 0 rfl) ?_
                          refine hf_X14_2 C0 hW hk1 tf_X14_16 dX14_value_221 ?_
                          refine h_aload_n C0.hx C0.hb dX14_value_224 rfl (lv_at hl 1 rfl) ?_
                          obtain ⟨hk74, h⟩ := g_if h
                          obtain ⟨q75, hq75, h⟩ := Option.bind_eq_some_iff.mp h
                          refine h_calli hW (h_runV (As := [g_rf G (p1)]) (rest := [.int (h_I y t 0)]) C0 hW (hW.rf (h_ne hk74 (by decide))) (h_recv C0 hW (h_ne hk74 (by decide)) (h_c51 hk74) rfl) (ihn _ _ _ _ hq75) cy_X14_value (by omega) tm_X14_121 ti_X14_value ts_X14_value rfl hl.1 rfl (Nat.le_of_ble_eq_true rfl) dX14_value_225) (fun H locs hW => ?_)
                          refine h_aload_n C0.hx C0.hb dX14_value_228 rfl (lv_at hl 0 rfl) ?_
                          obtain ⟨hk76, h⟩ := g_if h
                          refine hf_X14_3 C0 hW hk76 tf_X14_20 dX14_value_229 ?_
                          refine h_aload_n C0.hx C0.hb dX14_value_232 rfl (lv_at hl 1 rfl) ?_
                          obtain ⟨hk77, h⟩ := g_if h
                          obtain ⟨q78, hq78, h⟩ := Option.bind_eq_some_iff.mp h
                          refine h_calli hW (h_runV (As := [g_rf G (p1)]) (rest := [.int (q75.1), .int (h_I y t 0)]) C0 hW (hW.rf (h_ne hk77 (by decide))) (h_recv C0 hW (h_ne hk77 (by decide)) (h_c51 hk77) rfl) (ihn _ _ _ _ hq78) cy_X14_value (by omega) tm_X14_121 ti_X14_value ts_X14_value rfl hl.1 rfl (Nat.le_of_ble_eq_true rfl) dX14_value_233) (fun H locs hW => ?_)
                          obtain ⟨q79, hq79, h⟩ := Option.bind_eq_some_iff.mp h
                          refine h_calli hW (h_runS (As := [.int (h_I y t 0), .int (q75.1), .int (q78.1)]) (rest := []) C0 hW (c_l_X14_both hq79) cy_X14_both (by omega) tm_X14_132 tz_X14_both rfl hl.1 rfl (Nat.le_of_ble_eq_true rfl) dX14_value_236) (fun H locs hW => ?_)
                          obtain rfl := Option.some.inj h
                          exact h_iret C0 hW rfl rfl dX14_value_239
                        · replace h := (if_neg hc12).symm.trans h
                          by_cases hc13 : (h_I y t 0) = (11 : Int32)
                          · replace h := (if_pos hc13).symm.trans h
                            refine lv_tableIn (tgt := 216) C0.hx C0.hb dX14_value_4 (by rw [hc13]; decide) (by rw [hc13]; decide) (by rw [hc13]; rfl) (by decide) ?_
                            refine h_aload_n C0.hx C0.hb dX14_value_216 rfl (lv_at hl 0 rfl) ?_
                            refine hf_X14_0 C0 hW hk1 tf_X14_7 dX14_value_217 ?_
                            refine h_aload_n C0.hx C0.hb dX14_value_220 rfl (lv_at hl 0 rfl) ?_
                            refine hf_X14_2 C0 hW hk1 tf_X14_16 dX14_value_221 ?_
                            refine h_aload_n C0.hx C0.hb dX14_value_224 rfl (lv_at hl 1 rfl) ?_
                            obtain ⟨hk68, h⟩ := g_if h
                            obtain ⟨q69, hq69, h⟩ := Option.bind_eq_some_iff.mp h
                            refine h_calli hW (h_runV (As := [g_rf G (p1)]) (rest := [.int (h_I y t 0)]) C0 hW (hW.rf (h_ne hk68 (by decide))) (h_recv C0 hW (h_ne hk68 (by decide)) (h_c51 hk68) rfl) (ihn _ _ _ _ hq69) cy_X14_value (by omega) tm_X14_121 ti_X14_value ts_X14_value rfl hl.1 rfl (Nat.le_of_ble_eq_true rfl) dX14_value_225) (fun H locs hW => ?_)
                            refine h_aload_n C0.hx C0.hb dX14_value_228 rfl (lv_at hl 0 rfl) ?_
                            obtain ⟨hk70, h⟩ := g_if h
                            refine hf_X14_3 C0 hW hk70 tf_X14_20 dX14_value_229 ?_
                            refine h_aload_n C0.hx C0.hb dX14_value_232 rfl (lv_at hl 1 rfl) ?_
                            obtain ⟨hk71, h⟩ := g_if h
                            obtain ⟨q72, hq72, h⟩ := Option.bind_eq_some_iff.mp h
                            refine h_calli hW (h_runV (As := [g_rf G (p1)]) (rest := [.int (q69.1), .int (h_I y t 0)]) C0 hW (hW.rf (h_ne hk71 (by decide))) (h_recv C0 hW (h_ne hk71 (by decide)) (h_c51 hk71) rfl) (ihn _ _ _ _ hq72) cy_X14_value (by omega) tm_X14_121 ti_X14_value ts_X14_value rfl hl.1 rfl (Nat.le_of_ble_eq_true rfl) dX14_value_233) (fun H locs hW => ?_)
                            obtain ⟨q73, hq73, h⟩ := Option.bind_eq_some_iff.mp h
                            refine h_calli hW (h_runS (As := [.int (h_I y t 0), .int (q69.1), .int (q72.1)]) (rest := []) C0 hW (c_l_X14_both hq73) cy_X14_both (by omega) tm_X14_132 tz_X14_both rfl hl.1 rfl (Nat.le_of_ble_eq_true rfl) dX14_value_236) (fun H locs hW => ?_)
                            obtain rfl := Option.some.inj h
                            exact h_iret C0 hW rfl rfl dX14_value_239
                          · replace h := (if_neg hc13).symm.trans h
                            by_cases hc14 : (h_I y t 0) = (12 : Int32)
                            · replace h := (if_pos hc14).symm.trans h
                              refine lv_tableIn (tgt := 216) C0.hx C0.hb dX14_value_4 (by rw [hc14]; decide) (by rw [hc14]; decide) (by rw [hc14]; rfl) (by decide) ?_
                              refine h_aload_n C0.hx C0.hb dX14_value_216 rfl (lv_at hl 0 rfl) ?_
                              refine hf_X14_0 C0 hW hk1 tf_X14_7 dX14_value_217 ?_
                              refine h_aload_n C0.hx C0.hb dX14_value_220 rfl (lv_at hl 0 rfl) ?_
                              refine hf_X14_2 C0 hW hk1 tf_X14_16 dX14_value_221 ?_
                              refine h_aload_n C0.hx C0.hb dX14_value_224 rfl (lv_at hl 1 rfl) ?_
                              obtain ⟨hk62, h⟩ := g_if h
                              obtain ⟨q63, hq63, h⟩ := Option.bind_eq_some_iff.mp h
                              refine h_calli hW (h_runV (As := [g_rf G (p1)]) (rest := [.int (h_I y t 0)]) C0 hW (hW.rf (h_ne hk62 (by decide))) (h_recv C0 hW (h_ne hk62 (by decide)) (h_c51 hk62) rfl) (ihn _ _ _ _ hq63) cy_X14_value (by omega) tm_X14_121 ti_X14_value ts_X14_value rfl hl.1 rfl (Nat.le_of_ble_eq_true rfl) dX14_value_225) (fun H locs hW => ?_)
                              refine h_aload_n C0.hx C0.hb dX14_value_228 rfl (lv_at hl 0 rfl) ?_
                              obtain ⟨hk64, h⟩ := g_if h
                              refine hf_X14_3 C0 hW hk64 tf_X14_20 dX14_value_229 ?_
                              refine h_aload_n C0.hx C0.hb dX14_value_232 rfl (lv_at hl 1 rfl) ?_
                              obtain ⟨hk65, h⟩ := g_if h
                              obtain ⟨q66, hq66, h⟩ := Option.bind_eq_some_iff.mp h
                              refine h_calli hW (h_runV (As := [g_rf G (p1)]) (rest := [.int (q63.1), .int (h_I y t 0)]) C0 hW (hW.rf (h_ne hk65 (by decide))) (h_recv C0 hW (h_ne hk65 (by decide)) (h_c51 hk65) rfl) (ihn _ _ _ _ hq66) cy_X14_value (by omega) tm_X14_121 ti_X14_value ts_X14_value rfl hl.1 rfl (Nat.le_of_ble_eq_true rfl) dX14_value_233) (fun H locs hW => ?_)
                              obtain ⟨q67, hq67, h⟩ := Option.bind_eq_some_iff.mp h
                              refine h_calli hW (h_runS (As := [.int (h_I y t 0), .int (q63.1), .int (q66.1)]) (rest := []) C0 hW (c_l_X14_both hq67) cy_X14_both (by omega) tm_X14_132 tz_X14_both rfl hl.1 rfl (Nat.le_of_ble_eq_true rfl) dX14_value_236) (fun H locs hW => ?_)
                              obtain rfl := Option.some.inj h
                              exact h_iret C0 hW rfl rfl dX14_value_239
                            · replace h := (if_neg hc14).symm.trans h
                              by_cases hc15 : (h_I y t 0) = (13 : Int32)
                              · replace h := (if_pos hc15).symm.trans h
                                refine lv_tableIn (tgt := 216) C0.hx C0.hb dX14_value_4 (by rw [hc15]; decide) (by rw [hc15]; decide) (by rw [hc15]; rfl) (by decide) ?_
                                refine h_aload_n C0.hx C0.hb dX14_value_216 rfl (lv_at hl 0 rfl) ?_
                                refine hf_X14_0 C0 hW hk1 tf_X14_7 dX14_value_217 ?_
                                refine h_aload_n C0.hx C0.hb dX14_value_220 rfl (lv_at hl 0 rfl) ?_
                                refine hf_X14_2 C0 hW hk1 tf_X14_16 dX14_value_221 ?_
                                refine h_aload_n C0.hx C0.hb dX14_value_224 rfl (lv_at hl 1 rfl) ?_
                                obtain ⟨hk56, h⟩ := g_if h
                                obtain ⟨q57, hq57, h⟩ := Option.bind_eq_some_iff.mp h
                                refine h_calli hW (h_runV (As := [g_rf G (p1)]) (rest := [.int (h_I y t 0)]) C0 hW (hW.rf (h_ne hk56 (by decide))) (h_recv C0 hW (h_ne hk56 (by decide)) (h_c51 hk56) rfl) (ihn _ _ _ _ hq57) cy_X14_value (by omega) tm_X14_121 ti_X14_value ts_X14_value rfl hl.1 rfl (Nat.le_of_ble_eq_true rfl) dX14_value_225) (fun H locs hW => ?_)
                                refine h_aload_n C0.hx C0.hb dX14_value_228 rfl (lv_at hl 0 rfl) ?_
                                obtain ⟨hk58, h⟩ := g_if h
                                refine hf_X14_3 C0 hW hk58 tf_X14_20 dX14_value_229 ?_
                                refine h_aload_n C0.hx C0.hb dX14_value_232 rfl (lv_at hl 1 rfl) ?_
                                obtain ⟨hk59, h⟩ := g_if h
                                obtain ⟨q60, hq60, h⟩ := Option.bind_eq_some_iff.mp h
                                refine h_calli hW (h_runV (As := [g_rf G (p1)]) (rest := [.int (q57.1), .int (h_I y t 0)]) C0 hW (hW.rf (h_ne hk59 (by decide))) (h_recv C0 hW (h_ne hk59 (by decide)) (h_c51 hk59) rfl) (ihn _ _ _ _ hq60) cy_X14_value (by omega) tm_X14_121 ti_X14_value ts_X14_value rfl hl.1 rfl (Nat.le_of_ble_eq_true rfl) dX14_value_233) (fun H locs hW => ?_)
                                obtain ⟨q61, hq61, h⟩ := Option.bind_eq_some_iff.mp h
                                refine h_calli hW (h_runS (As := [.int (h_I y t 0), .int (q57.1), .int (q60.1)]) (rest := []) C0 hW (c_l_X14_both hq61) cy_X14_both (by omega) tm_X14_132 tz_X14_both rfl hl.1 rfl (Nat.le_of_ble_eq_true rfl) dX14_value_236) (fun H locs hW => ?_)
                                obtain rfl := Option.some.inj h
                                exact h_iret C0 hW rfl rfl dX14_value_239
                              · replace h := (if_neg hc15).symm.trans h
                                by_cases hc16 : (h_I y t 0) = (14 : Int32)
                                · replace h := (if_pos hc16).symm.trans h
                                  refine lv_tableIn (tgt := 216) C0.hx C0.hb dX14_value_4 (by rw [hc16]; decide) (by rw [hc16]; decide) (by rw [hc16]; rfl) (by decide) ?_
                                  refine h_aload_n C0.hx C0.hb dX14_value_216 rfl (lv_at hl 0 rfl) ?_
                                  refine hf_X14_0 C0 hW hk1 tf_X14_7 dX14_value_217 ?_
                                  refine h_aload_n C0.hx C0.hb dX14_value_220 rfl (lv_at hl 0 rfl) ?_
                                  refine hf_X14_2 C0 hW hk1 tf_X14_16 dX14_value_221 ?_
                                  refine h_aload_n C0.hx C0.hb dX14_value_224 rfl (lv_at hl 1 rfl) ?_
                                  obtain ⟨hk50, h⟩ := g_if h
                                  obtain ⟨q51, hq51, h⟩ := Option.bind_eq_some_iff.mp h
                                  refine h_calli hW (h_runV (As := [g_rf G (p1)]) (rest := [.int (h_I y t 0)]) C0 hW (hW.rf (h_ne hk50 (by decide))) (h_recv C0 hW (h_ne hk50 (by decide)) (h_c51 hk50) rfl) (ihn _ _ _ _ hq51) cy_X14_value (by omega) tm_X14_121 ti_X14_value ts_X14_value rfl hl.1 rfl (Nat.le_of_ble_eq_true rfl) dX14_value_225) (fun H locs hW => ?_)
                                  refine h_aload_n C0.hx C0.hb dX14_value_228 rfl (lv_at hl 0 rfl) ?_
                                  obtain ⟨hk52, h⟩ := g_if h
                                  refine hf_X14_3 C0 hW hk52 tf_X14_20 dX14_value_229 ?_
                                  refine h_aload_n C0.hx C0.hb dX14_value_232 rfl (lv_at hl 1 rfl) ?_
                                  obtain ⟨hk53, h⟩ := g_if h
                                  obtain ⟨q54, hq54, h⟩ := Option.bind_eq_some_iff.mp h
                                  refine h_calli hW (h_runV (As := [g_rf G (p1)]) (rest := [.int (q51.1), .int (h_I y t 0)]) C0 hW (hW.rf (h_ne hk53 (by decide))) (h_recv C0 hW (h_ne hk53 (by decide)) (h_c51 hk53) rfl) (ihn _ _ _ _ hq54) cy_X14_value (by omega) tm_X14_121 ti_X14_value ts_X14_value rfl hl.1 rfl (Nat.le_of_ble_eq_true rfl) dX14_value_233) (fun H locs hW => ?_)
                                  obtain ⟨q55, hq55, h⟩ := Option.bind_eq_some_iff.mp h
                                  refine h_calli hW (h_runS (As := [.int (h_I y t 0), .int (q51.1), .int (q54.1)]) (rest := []) C0 hW (c_l_X14_both hq55) cy_X14_both (by omega) tm_X14_132 tz_X14_both rfl hl.1 rfl (Nat.le_of_ble_eq_true rfl) dX14_value_236) (fun H locs hW => ?_)
                                  obtain rfl := Option.some.inj h
                                  exact h_iret C0 hW rfl rfl dX14_value_239
                                · replace h := (if_neg hc16).symm.trans h
                                  by_cases hc17 : (h_I y t 0) = (15 : Int32)
                                  · replace h := (if_pos hc17).symm.trans h
                                    refine lv_tableIn (tgt := 216) C0.hx C0.hb dX14_value_4 (by rw [hc17]; decide) (by rw [hc17]; decide) (by rw [hc17]; rfl) (by decide) ?_
                                    refine h_aload_n C0.hx C0.hb dX14_value_216 rfl (lv_at hl 0 rfl) ?_
                                    refine hf_X14_0 C0 hW hk1 tf_X14_7 dX14_value_217 ?_
                                    refine h_aload_n C0.hx C0.hb dX14_value_220 rfl (lv_at hl 0 rfl) ?_
                                    refine hf_X14_2 C0 hW hk1 tf_X14_16 dX14_value_221 ?_
                                    refine h_aload_n C0.hx C0.hb dX14_value_224 rfl (lv_at hl 1 rfl) ?_
                                    obtain ⟨hk44, h⟩ := g_if h
                                    obtain ⟨q45, hq45, h⟩ := Option.bind_eq_some_iff.mp h
                                    refine h_calli hW (h_runV (As := [g_rf G (p1)]) (rest := [.int (h_I y t 0)]) C0 hW (hW.rf (h_ne hk44 (by decide))) (h_recv C0 hW (h_ne hk44 (by decide)) (h_c51 hk44) rfl) (ihn _ _ _ _ hq45) cy_X14_value (by omega) tm_X14_121 ti_X14_value ts_X14_value rfl hl.1 rfl (Nat.le_of_ble_eq_true rfl) dX14_value_225) (fun H locs hW => ?_)
                                    refine h_aload_n C0.hx C0.hb dX14_value_228 rfl (lv_at hl 0 rfl) ?_
                                    obtain ⟨hk46, h⟩ := g_if h
                                    refine hf_X14_3 C0 hW hk46 tf_X14_20 dX14_value_229 ?_
                                    refine h_aload_n C0.hx C0.hb dX14_value_232 rfl (lv_at hl 1 rfl) ?_
                                    obtain ⟨hk47, h⟩ := g_if h
                                    obtain ⟨q48, hq48, h⟩ := Option.bind_eq_some_iff.mp h
                                    refine h_calli hW (h_runV (As := [g_rf G (p1)]) (rest := [.int (q45.1), .int (h_I y t 0)]) C0 hW (hW.rf (h_ne hk47 (by decide))) (h_recv C0 hW (h_ne hk47 (by decide)) (h_c51 hk47) rfl) (ihn _ _ _ _ hq48) cy_X14_value (by omega) tm_X14_121 ti_X14_value ts_X14_value rfl hl.1 rfl (Nat.le_of_ble_eq_true rfl) dX14_value_233) (fun H locs hW => ?_)
                                    obtain ⟨q49, hq49, h⟩ := Option.bind_eq_some_iff.mp h
                                    refine h_calli hW (h_runS (As := [.int (h_I y t 0), .int (q45.1), .int (q48.1)]) (rest := []) C0 hW (c_l_X14_both hq49) cy_X14_both (by omega) tm_X14_132 tz_X14_both rfl hl.1 rfl (Nat.le_of_ble_eq_true rfl) dX14_value_236) (fun H locs hW => ?_)
                                    obtain rfl := Option.some.inj h
                                    exact h_iret C0 hW rfl rfl dX14_value_239
                                  · replace h := (if_neg hc17).symm.trans h
                                    by_cases hc18 : (h_I y t 0) = (16 : Int32)
                                    · replace h := (if_pos hc18).symm.trans h
                                      refine lv_tableIn (tgt := 216) C0.hx C0.hb dX14_value_4 (by rw [hc18]; decide) (by rw [hc18]; decide) (by rw [hc18]; rfl) (by decide) ?_
                                      refine h_aload_n C0.hx C0.hb dX14_value_216 rfl (lv_at hl 0 rfl) ?_
                                      refine hf_X14_0 C0 hW hk1 tf_X14_7 dX14_value_217 ?_
                                      refine h_aload_n C0.hx C0.hb dX14_value_220 rfl (lv_at hl 0 rfl) ?_
                                      refine hf_X14_2 C0 hW hk1 tf_X14_16 dX14_value_221 ?_
                                      refine h_aload_n C0.hx C0.hb dX14_value_224 rfl (lv_at hl 1 rfl) ?_
                                      obtain ⟨hk38, h⟩ := g_if h
                                      obtain ⟨q39, hq39, h⟩ := Option.bind_eq_some_iff.mp h
                                      refine h_calli hW (h_runV (As := [g_rf G (p1)]) (rest := [.int (h_I y t 0)]) C0 hW (hW.rf (h_ne hk38 (by decide))) (h_recv C0 hW (h_ne hk38 (by decide)) (h_c51 hk38) rfl) (ihn _ _ _ _ hq39) cy_X14_value (by omega) tm_X14_121 ti_X14_value ts_X14_value rfl hl.1 rfl (Nat.le_of_ble_eq_true rfl) dX14_value_225) (fun H locs hW => ?_)
                                      refine h_aload_n C0.hx C0.hb dX14_value_228 rfl (lv_at hl 0 rfl) ?_
                                      obtain ⟨hk40, h⟩ := g_if h
                                      refine hf_X14_3 C0 hW hk40 tf_X14_20 dX14_value_229 ?_
                                      refine h_aload_n C0.hx C0.hb dX14_value_232 rfl (lv_at hl 1 rfl) ?_
                                      obtain ⟨hk41, h⟩ := g_if h
                                      obtain ⟨q42, hq42, h⟩ := Option.bind_eq_some_iff.mp h
                                      refine h_calli hW (h_runV (As := [g_rf G (p1)]) (rest := [.int (q39.1), .int (h_I y t 0)]) C0 hW (hW.rf (h_ne hk41 (by decide))) (h_recv C0 hW (h_ne hk41 (by decide)) (h_c51 hk41) rfl) (ihn _ _ _ _ hq42) cy_X14_value (by omega) tm_X14_121 ti_X14_value ts_X14_value rfl hl.1 rfl (Nat.le_of_ble_eq_true rfl) dX14_value_233) (fun H locs hW => ?_)
                                      obtain ⟨q43, hq43, h⟩ := Option.bind_eq_some_iff.mp h
                                      refine h_calli hW (h_runS (As := [.int (h_I y t 0), .int (q39.1), .int (q42.1)]) (rest := []) C0 hW (c_l_X14_both hq43) cy_X14_both (by omega) tm_X14_132 tz_X14_both rfl hl.1 rfl (Nat.le_of_ble_eq_true rfl) dX14_value_236) (fun H locs hW => ?_)
                                      obtain rfl := Option.some.inj h
                                      exact h_iret C0 hW rfl rfl dX14_value_239
                                    · replace h := (if_neg hc18).symm.trans h
                                      by_cases hc19 : (h_I y t 0) = (17 : Int32)
                                      · replace h := (if_pos hc19).symm.trans h
                                        refine lv_tableIn (tgt := 169) C0.hx C0.hb dX14_value_4 (by rw [hc19]; decide) (by rw [hc19]; decide) (by rw [hc19]; rfl) (by decide) ?_
                                        refine h_aload_n C0.hx C0.hb dX14_value_169 rfl (lv_at hl 1 rfl) ?_
                                        refine lv_iconst (v := (-1 : Int32)) C0.hx C0.hb dX14_value_170 (by decide) ?_
                                        obtain ⟨hk34, h⟩ := g_if h
                                        obtain ⟨q35, hq35, h⟩ := Option.bind_eq_some_iff.mp h
                                        refine h_calli hW (h_runV (As := [.int ((-1 : Int32))]) (rest := []) C0 hW (hW.rf (h_ne hk34 (by decide))) (h_recv C0 hW (h_ne hk34 (by decide)) (h_c53 hk34) rfl) (c_l_X16_meant hq35) cy_X16_meant (by omega) tm_X14_125 ti_X16_meant ts_X16_meant rfl hl.1 rfl (Nat.le_of_ble_eq_true rfl) dX14_value_171) (fun H locs hW => ?_)
                                        refine h_aload_n C0.hx C0.hb dX14_value_174 rfl (lv_at hl 0 rfl) ?_
                                        obtain ⟨hk36, h⟩ := g_if h
                                        refine hf_X14_1 C0 hW hk36 tf_X14_13 dX14_value_175 ?_
                                        refine lv_icmp_ne (tgt := 185) C0.hx C0.hb dX14_value_178 (by decide) (fun hc37 => ?_) (fun hc37 => ?_)
                                        · replace h := (if_neg hc37).symm.trans h
                                          refine lv_iconst (v := (0 : Int32)) C0.hx C0.hb dX14_value_185 (by decide) ?_
                                          obtain rfl := Option.some.inj h
                                          exact h_iret C0 hW rfl rfl dX14_value_186
                                        · replace h := (if_pos hc37).symm.trans h
                                          refine lv_iconst (v := (1 : Int32)) C0.hx C0.hb dX14_value_181 (by decide) ?_
                                          refine lv_goto (tgt := 186) C0.hx C0.hb dX14_value_182 (by decide) ?_
                                          obtain rfl := Option.some.inj h
                                          exact h_iret C0 hW rfl rfl dX14_value_186
                                      · replace h := (if_neg hc19).symm.trans h
                                        by_cases hc20 : (h_I y t 0) = (18 : Int32)
                                        · replace h := (if_pos hc20).symm.trans h
                                          refine lv_tableIn (tgt := 187) C0.hx C0.hb dX14_value_4 (by rw [hc20]; decide) (by rw [hc20]; decide) (by rw [hc20]; rfl) (by decide) ?_
                                          refine h_aload_n C0.hx C0.hb dX14_value_187 rfl (lv_at hl 1 rfl) ?_
                                          obtain ⟨hk30, h⟩ := g_if h
                                          refine hf_X16_3 C0 hW hk30 tf_X14_128 dX14_value_188 ?_
                                          refine h_aload_n C0.hx C0.hb dX14_value_191 rfl (lv_at hl 0 rfl) ?_
                                          refine hf_X14_1 C0 hW hk1 tf_X14_13 dX14_value_192 ?_
                                          obtain ⟨hk31, h⟩ := g_if h
                                          obtain ⟨hn32, h⟩ := g_if h
                                          refine ha_62 C0 hW hk31 hn32 dX14_value_195 ?_
                                          refine lv_if_eq (tgt := 203) C0.hx C0.hb dX14_value_196 (by decide) (fun hc33 => ?_) (fun hc33 => ?_)
                                          · replace h := (if_pos hc33).symm.trans h
                                            refine lv_iconst (v := (0 : Int32)) C0.hx C0.hb dX14_value_203 (by decide) ?_
                                            obtain rfl := Option.some.inj h
                                            exact h_iret C0 hW rfl rfl dX14_value_204
                                          · replace h := (if_neg hc33).symm.trans h
                                            refine lv_iconst (v := (1 : Int32)) C0.hx C0.hb dX14_value_199 (by decide) ?_
                                            refine lv_goto (tgt := 204) C0.hx C0.hb dX14_value_200 (by decide) ?_
                                            obtain rfl := Option.some.inj h
                                            exact h_iret C0 hW rfl rfl dX14_value_204
                                        · replace h := (if_neg hc20).symm.trans h
                                          by_cases hc21 : (h_I y t 0) = (19 : Int32)
                                          · replace h := (if_pos hc21).symm.trans h
                                            refine lv_tableIn (tgt := 205) C0.hx C0.hb dX14_value_4 (by rw [hc21]; decide) (by rw [hc21]; decide) (by rw [hc21]; rfl) (by decide) ?_
                                            refine lv_iconst (v := (1 : Int32)) C0.hx C0.hb dX14_value_205 (by decide) ?_
                                            refine h_aload_n C0.hx C0.hb dX14_value_206 rfl (lv_at hl 0 rfl) ?_
                                            refine hf_X14_2 C0 hW hk1 tf_X14_16 dX14_value_207 ?_
                                            refine h_aload_n C0.hx C0.hb dX14_value_210 rfl (lv_at hl 1 rfl) ?_
                                            obtain ⟨hk28, h⟩ := g_if h
                                            obtain ⟨q29, hq29, h⟩ := Option.bind_eq_some_iff.mp h
                                            refine h_calli hW (h_runV (As := [g_rf G (p1)]) (rest := [.int ((1 : Int32))]) C0 hW (hW.rf (h_ne hk28 (by decide))) (h_recv C0 hW (h_ne hk28 (by decide)) (h_c51 hk28) rfl) (ihn _ _ _ _ hq29) cy_X14_value (by omega) tm_X14_121 ti_X14_value ts_X14_value rfl hl.1 rfl (Nat.le_of_ble_eq_true rfl) dX14_value_211) (fun H locs hW => ?_)
                                            refine lv_isub C0.hx C0.hb dX14_value_214 ?_
                                            obtain rfl := Option.some.inj h
                                            exact h_iret C0 hW rfl rfl dX14_value_215
                                          · replace h := (if_neg hc21).symm.trans h
                                            refine lv_tableOut (tgt := 216) C0.hx C0.hb dX14_value_4 (g_sw_X14_value_4 hc2 hc3 hc4 hc5 hc6 hc7 hc8 hc9 hc10 hc11 hc12 hc13 hc14 hc15 hc16 hc17 hc18 hc19 hc20 hc21) (by decide) ?_
                                            refine h_aload_n C0.hx C0.hb dX14_value_216 rfl (lv_at hl 0 rfl) ?_
                                            refine hf_X14_0 C0 hW hk1 tf_X14_7 dX14_value_217 ?_
                                            refine h_aload_n C0.hx C0.hb dX14_value_220 rfl (lv_at hl 0 rfl) ?_
                                            refine hf_X14_2 C0 hW hk1 tf_X14_16 dX14_value_221 ?_
                                            refine h_aload_n C0.hx C0.hb dX14_value_224 rfl (lv_at hl 1 rfl) ?_
                                            obtain ⟨hk22, h⟩ := g_if h
                                            obtain ⟨q23, hq23, h⟩ := Option.bind_eq_some_iff.mp h
                                            refine h_calli hW (h_runV (As := [g_rf G (p1)]) (rest := [.int (h_I y t 0)]) C0 hW (hW.rf (h_ne hk22 (by decide))) (h_recv C0 hW (h_ne hk22 (by decide)) (h_c51 hk22) rfl) (ihn _ _ _ _ hq23) cy_X14_value (by omega) tm_X14_121 ti_X14_value ts_X14_value rfl hl.1 rfl (Nat.le_of_ble_eq_true rfl) dX14_value_225) (fun H locs hW => ?_)
                                            refine h_aload_n C0.hx C0.hb dX14_value_228 rfl (lv_at hl 0 rfl) ?_
                                            obtain ⟨hk24, h⟩ := g_if h
                                            refine hf_X14_3 C0 hW hk24 tf_X14_20 dX14_value_229 ?_
                                            refine h_aload_n C0.hx C0.hb dX14_value_232 rfl (lv_at hl 1 rfl) ?_
                                            obtain ⟨hk25, h⟩ := g_if h
                                            obtain ⟨q26, hq26, h⟩ := Option.bind_eq_some_iff.mp h
                                            refine h_calli hW (h_runV (As := [g_rf G (p1)]) (rest := [.int (q23.1), .int (h_I y t 0)]) C0 hW (hW.rf (h_ne hk25 (by decide))) (h_recv C0 hW (h_ne hk25 (by decide)) (h_c51 hk25) rfl) (ihn _ _ _ _ hq26) cy_X14_value (by omega) tm_X14_121 ti_X14_value ts_X14_value rfl hl.1 rfl (Nat.le_of_ble_eq_true rfl) dX14_value_233) (fun H locs hW => ?_)
                                            obtain ⟨q27, hq27, h⟩ := Option.bind_eq_some_iff.mp h
                                            refine h_calli hW (h_runS (As := [.int (h_I y t 0), .int (q23.1), .int (q26.1)]) (rest := []) C0 hW (c_l_X14_both hq27) cy_X14_both (by omega) tm_X14_132 tz_X14_both rfl hl.1 rfl (Nat.le_of_ble_eq_true rfl) dX14_value_236) (fun H locs hW => ?_)
                                            obtain rfl := Option.some.inj h
                                            exact h_iret C0 hW rfl rfl dX14_value_239
set_option maxRecDepth 100000 in
set_option maxHeartbeats 4000000 in
theorem w_l_X15_init_65 {p : Program} {l : Launch} {e : Env} {s : State} {m : MethodId} {args : Array Value} {below : List Frame} {meth : Method} {c : Code} {G : GL} {o : Nat → Int32} {y0 : MS} {x : CS} {q : MS} (hin_ : "<init>" = "<init>" → meth.name = "<init>") (C0 : g_X G (List.range 120) p s m args meth c cX15_init 4 RX15 (Option.none : Option Jvm.ClassFile.FieldType))  : ∀  (l0 : Nat) (l1 : Nat) (l2 : Int32) (s0 : Nat) (s1 : Nat) (y : MS) (H : Heap) (locs : List Loc) (ls : Array Slot), f_l_X15_init_65 l0 l1 l2 s0 s1 y = some q → h_W G y0 (x, y, o) s.heap H locs → lv_has ls 4 [(0, g_rf G (l0)), (1, g_rf G (l1)), (2, .int (l2))] → W p l e (h_lv 85 y0) s m args below meth c H locs (h_nx y - h_nx y0) (h_sl y - h_sl y0) (MQ below (h_Qv G y0 (x, q, o)) args s (h_nx q - h_nx y0) (h_sl q - h_sl y0) (g_A G)) (F0 m 65 ls [g_rf G (s0), g_rf G (s1)]) := by
  intro l0 l1 l2 s0 s1 y H locs ls h hW hl
  unfold f_l_X15_init_65 at h
  obtain ⟨hk14, h⟩ := g_if h
  refine hp_X15_2 C0 hW hk14 tf_X15_28 (hin_ rfl) rfl dX15_init_65 (fun H locs hW => ?_)
  refine h_fwr hW ?_
  refine h_aload_n C0.hx C0.hb dX15_init_68 rfl (lv_at hl 0 rfl) ?_
  refine h_aload_n C0.hx C0.hb dX15_init_69 rfl (lv_at hl 1 rfl) ?_
  refine lv_iconst (v := (4 : Int32)) C0.hx C0.hb dX15_init_70 (by decide) ?_
  obtain ⟨hk15, h⟩ := g_if h
  obtain ⟨q16, hq16, h⟩ := Option.bind_eq_some_iff.mp h
  refine h_calli hW (h_runV (As := [.int ((4 : Int32))]) (rest := [g_rf G (l0)]) C0 hW (hW.rf (h_ne hk15 (by decide))) (h_recv C0 hW (h_ne hk15 (by decide)) (h_c50 hk15) rfl) (c_l_X13_next hq16) cy_X13_next (by omega) tm_X15_7 ti_X13_next ts_X13_next rfl hl.1 rfl (by simp [g_catQ, h_ki, h_kr, h_kn, h_kl, h_kd]) dX15_init_71) (fun H locs hW => ?_)
  refine lv_if_ne (tgt := 81) C0.hx C0.hb dX15_init_74 (by decide) (fun hc17 => ?_) (fun hc17 => ?_)
  · replace h := (if_neg hc17).symm.trans h
    refine h_aload_n C0.hx C0.hb dX15_init_81 rfl (lv_at hl 1 rfl) ?_
    refine lv_iload_n C0.hx C0.hb dX15_init_82 rfl (lv_at hl 2 rfl) ?_
    refine lv_iconst (v := (1 : Int32)) C0.hx C0.hb dX15_init_83 (by decide) ?_
    obtain ⟨q18, hq18, h⟩ := Option.bind_eq_some_iff.mp h
    refine h_callr hW (h_runS (As := [g_rf G (l1), .int (l2), .int ((1 : Int32))]) (rest := [g_rf G (l0)]) C0 hW (c_l_X14_test 6 _ _ _ _ _ hq18) cy_X14_test (by omega) tm_X15_31 tz_X14_test rfl hl.1 rfl (by simp [g_catQ, h_ki, h_kr, h_kn, h_kl, h_kd]) dX15_init_84) (fun H locs hW => ?_)
    obtain ⟨hk19, h⟩ := g_if h
    refine hp_X15_3 C0 hW hk19 tf_X15_34 (hin_ rfl) rfl dX15_init_87 (fun H locs hW => ?_)
    refine h_fwr hW ?_
    obtain rfl := Option.some.inj h
    exact h_vret C0 hW rfl dX15_init_90
  · replace h := (if_pos hc17).symm.trans h
    refine h_null (G := G) C0.hx C0.hb dX15_init_77 ?_
    refine lv_goto (tgt := 87) C0.hx C0.hb dX15_init_78 (by decide) ?_
    obtain ⟨hk20, h⟩ := g_if h
    refine hp_X15_3 C0 hW hk20 tf_X15_34 (hin_ rfl) rfl dX15_init_87 (fun H locs hW => ?_)
    refine h_fwr hW ?_
    obtain rfl := Option.some.inj h
    exact h_vret C0 hW rfl dX15_init_90
set_option maxRecDepth 100000 in
set_option maxHeartbeats 4000000 in
theorem w_l_X15_init_30 {p : Program} {l : Launch} {e : Env} {s : State} {m : MethodId} {args : Array Value} {below : List Frame} {meth : Method} {c : Code} {G : GL} {o : Nat → Int32} {y0 : MS} {x : CS} {q : MS} (hin_ : "<init>" = "<init>" → meth.name = "<init>") (C0 : g_X G (List.range 120) p s m args meth c cX15_init 4 RX15 (Option.none : Option Jvm.ClassFile.FieldType))  : ∀  (l0 : Nat) (l1 : Nat) (l2 : Int32) (s0 : Int32) (s1 : Nat) (y : MS) (H : Heap) (locs : List Loc) (ls : Array Slot), f_l_X15_init_30 l0 l1 l2 s0 s1 y = some q → h_W G y0 (x, y, o) s.heap H locs → lv_has ls 4 [(0, g_rf G (l0)), (1, g_rf G (l1)), (2, .int (l2))] → W p l e (h_lv 85 y0) s m args below meth c H locs (h_nx y - h_nx y0) (h_sl y - h_sl y0) (MQ below (h_Qv G y0 (x, q, o)) args s (h_nx q - h_nx y0) (h_sl q - h_sl y0) (g_A G)) (F0 m 30 ls [.int (s0), g_rf G (s1)]) := by
  intro l0 l1 l2 s0 s1 y H locs ls h hW hl
  unfold f_l_X15_init_30 at h
  obtain ⟨hk6, h⟩ := g_if h
  refine hp_X15_0 C0 hW hk6 tf_X15_13 (hin_ rfl) rfl dX15_init_30 (fun H locs hW => ?_)
  refine h_fwi hW ?_
  refine h_aload_n C0.hx C0.hb dX15_init_33 rfl (lv_at hl 0 rfl) ?_
  refine h_aload_n C0.hx C0.hb dX15_init_34 rfl (lv_at hl 1 rfl) ?_
  refine lv_iload_n C0.hx C0.hb dX15_init_35 rfl (lv_at hl 2 rfl) ?_
  obtain ⟨hk7, h⟩ := g_if h
  obtain ⟨q8, hq8, h⟩ := Option.bind_eq_some_iff.mp h
  refine h_calli hW (h_runV (As := [.int (l2)]) (rest := [g_rf G (l0)]) C0 hW (hW.rf (h_ne hk7 (by decide))) (h_recv C0 hW (h_ne hk7 (by decide)) (h_c50 hk7) rfl) (c_l_X13_next hq8) cy_X13_next (by omega) tm_X15_7 ti_X13_next ts_X13_next rfl hl.1 rfl (by simp [g_catQ, h_ki, h_kr, h_kn, h_kl, h_kd]) dX15_init_36) (fun H locs hW => ?_)
  obtain ⟨hk9, h⟩ := g_if h
  refine hp_X15_1 C0 hW hk9 tf_X15_19 (hin_ rfl) rfl dX15_init_39 (fun H locs hW => ?_)
  refine h_fwi hW ?_
  refine h_aload_n C0.hx C0.hb dX15_init_42 rfl (lv_at hl 0 rfl) ?_
  refine h_aload_n C0.hx C0.hb dX15_init_43 rfl (lv_at hl 0 rfl) ?_
  refine hf_X15_0 C0 hW hk9 tf_X15_13 dX15_init_44 ?_
  refine lv_iconst (v := (2 : Int32)) C0.hx C0.hb dX15_init_47 (by decide) ?_
  refine lv_icmp_ge (tgt := 55) C0.hx C0.hb dX15_init_48 (by decide) (fun hc10 => ?_) (fun hc10 => ?_)
  · replace h := (if_pos hc10).symm.trans h
    refine h_aload_n C0.hx C0.hb dX15_init_55 rfl (lv_at hl 1 rfl) ?_
    refine lv_iload_n C0.hx C0.hb dX15_init_56 rfl (lv_at hl 2 rfl) ?_
    refine h_aload_n C0.hx C0.hb dX15_init_57 rfl (lv_at hl 1 rfl) ?_
    refine lv_iconst (v := (2 : Int32)) C0.hx C0.hb dX15_init_58 (by decide) ?_
    obtain ⟨hk11, h⟩ := g_if h
    obtain ⟨q12, hq12, h⟩ := Option.bind_eq_some_iff.mp h
    refine h_calli hW (h_runV (As := [.int ((2 : Int32))]) (rest := [.int (l2), g_rf G (l1), g_rf G (l0)]) C0 hW (hW.rf (h_ne hk11 (by decide))) (h_recv C0 hW (h_ne hk11 (by decide)) (h_c50 hk11) rfl) (c_l_X13_next hq12) cy_X13_next (by omega) tm_X15_7 ti_X13_next ts_X13_next rfl hl.1 rfl (by simp [g_catQ, h_ki, h_kr, h_kn, h_kl, h_kd]) dX15_init_59) (fun H locs hW => ?_)
    obtain ⟨q13, hq13, h⟩ := Option.bind_eq_some_iff.mp h
    refine h_callr hW (h_runS (As := [g_rf G (l1), .int (l2), .int (q12.1)]) (rest := [g_rf G (l0)]) C0 hW (c_l_X14_sum 6 _ _ _ _ _ hq13) cy_X14_sum (by omega) tm_X15_22 tz_X14_sum rfl hl.1 rfl (by simp [g_catQ, h_ki, h_kr, h_kn, h_kl, h_kd]) dX15_init_62) (fun H locs hW => ?_)
    have hz := w_l_X15_init_65 (l := l) (e := e) (below := below) hin_ C0 _ _ _ _ _ _ _ _ _ h hW (lv_sub hl [0, 1, 2] rfl)
    exact hz
  · replace h := (if_neg hc10).symm.trans h
    refine h_null (G := G) C0.hx C0.hb dX15_init_51 ?_
    refine lv_goto (tgt := 65) C0.hx C0.hb dX15_init_52 (by decide) ?_
    have hz := w_l_X15_init_65 (l := l) (e := e) (below := below) hin_ C0 _ _ _ _ _ _ _ _ _ h hW (lv_sub hl [0, 1, 2] rfl)
    exact hz
set_option maxRecDepth 100000 in
set_option maxHeartbeats 4000000 in
theorem c_l_X15_init {l : Launch} {G : GL} {o : Nat → Int32} {x : CS} {y : MS} {t : Nat} {p1 : Nat} {p2 : Int32} {q : MS} (h : f_l_X15_init t p1 p2 y = some q) : Met l yX15_init (.code yX15_init cX15_init 4 (Option.none : Option Jvm.ClassFile.FieldType) :: gT) (h_lv 85 y) (va_Pc [g_rf G (t), g_rf G (p1), .int (p2)] (h_P G (x, y, o))) (h_Qv G y (x, q, o)) (h_nx q - h_nx y) (h_sl q - h_sl y) (g_A G) := by
  unfold f_l_X15_init at h
  refine h_entry (by decide) (by simp [lg_sl, g_catQ, h_ki, h_kr, h_kn, h_kl, h_kd]) (fun p e s m args below meth c ls C0 hl hW hin_ => ?_)
  have hl : lv_has ls 4 [(0, g_rf G (t)), (1, g_rf G (p1)), (2, .int (p2))] := by simpa [lv_args, g_catQ, h_ki, h_kr, h_kn, h_kl, h_kd] using hl
  refine h_aload_n C0.hx C0.hb dX15_init_0 rfl (lv_at hl 0 rfl) ?_
  obtain ⟨hk1, h⟩ := g_if h
  refine h_objInit C0 hW (h_ne hk1 (by decide)) tm_X15_1 hl.1 (by show 1 ≤ 85; omega) (Nat.le_of_ble_eq_true rfl) dX15_init_1 ?_
  refine h_aload_n C0.hx C0.hb dX15_init_4 rfl (lv_at hl 1 rfl) ?_
  refine lv_iconst (v := (5 : Int32)) C0.hx C0.hb dX15_init_5 (by decide) ?_
  obtain ⟨hk2, h⟩ := g_if h
  obtain ⟨q3, hq3, h⟩ := Option.bind_eq_some_iff.mp h
  refine h_calli hW (h_runV (As := [.int ((5 : Int32))]) (rest := []) C0 hW (hW.rf (h_ne hk2 (by decide))) (h_recv C0 hW (h_ne hk2 (by decide)) (h_c50 hk2) rfl) (c_l_X13_next hq3) cy_X13_next (by omega) tm_X15_7 ti_X13_next ts_X13_next rfl hl.1 rfl (Nat.le_of_ble_eq_true rfl) dX15_init_6) (fun H locs hW => ?_)
  refine lv_istore_n (lv' := [(3, .int (q3.1)), (0, g_rf G (t)), (1, g_rf G (p1)), (2, .int (p2))]) C0.hx C0.hb dX15_init_9 rfl hl (by decide) rfl (fun ls hl => ?_)
  refine h_aload_n C0.hx C0.hb dX15_init_10 rfl (lv_at hl 1 rfl) ?_
  refine lv_iload_n C0.hx C0.hb dX15_init_11 rfl (lv_at hl 0 rfl) ?_
  refine lv_iconst (v := (3 : Int32)) C0.hx C0.hb dX15_init_12 (by decide) ?_
  refine lv_icmp_ge (tgt := 20) C0.hx C0.hb dX15_init_13 (by decide) (fun hc4 => ?_) (fun hc4 => ?_)
  · replace h := (if_pos hc4).symm.trans h
    refine lv_iload_n C0.hx C0.hb dX15_init_20 rfl (lv_at hl 0 rfl) ?_
    refine lv_iconst (v := (3 : Int32)) C0.hx C0.hb dX15_init_21 (by decide) ?_
    refine lv_icmp_ne (tgt := 29) C0.hx C0.hb dX15_init_22 (by decide) (fun hc5 => ?_) (fun hc5 => ?_)
    · replace h := (if_neg hc5).symm.trans h
      refine lv_iconst (v := (0 : Int32)) C0.hx C0.hb dX15_init_29 (by decide) ?_
      have hz := w_l_X15_init_30 (l := l) (e := e) (below := below) hin_ C0 _ _ _ _ _ _ _ _ _ h hW (lv_sub hl [1, 2, 3] rfl)
      exact hz
    · replace h := (if_pos hc5).symm.trans h
      refine lv_iconst (v := (2 : Int32)) C0.hx C0.hb dX15_init_25 (by decide) ?_
      refine lv_goto (tgt := 30) C0.hx C0.hb dX15_init_26 (by decide) ?_
      have hz := w_l_X15_init_30 (l := l) (e := e) (below := below) hin_ C0 _ _ _ _ _ _ _ _ _ h hW (lv_sub hl [1, 2, 3] rfl)
      exact hz
  · replace h := (if_neg hc4).symm.trans h
    refine lv_iload_n C0.hx C0.hb dX15_init_16 rfl (lv_at hl 0 rfl) ?_
    refine lv_goto (tgt := 30) C0.hx C0.hb dX15_init_17 (by decide) ?_
    have hz := w_l_X15_init_30 (l := l) (e := e) (below := below) hin_ C0 _ _ _ _ _ _ _ _ _ h hW (lv_sub hl [1, 2, 3] rfl)
    exact hz
