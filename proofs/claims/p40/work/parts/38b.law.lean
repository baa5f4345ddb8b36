set_option maxRecDepth 100000 in
set_option maxHeartbeats 4000000 in
theorem c_l_X14_text {l : Launch} {G : GL} {o : Nat → Int32} {x : CS} : ∀ (n : Nat) (t : Nat) (y : MS) (q : Nat × MS), f_l_X14_text n t y = some q → Met l yX14_text (.code yX14_text cX14_text 1 (Option.some (Jvm.ClassFile.FieldType.object "java/lang/String")) :: gT) (h_lv (20 + 4 * n) y) (va_Pc [g_rf G (t)] (h_P G (x, y, o))) (h_Qr G y (.ref (g_sa G (q.1))) (x, q.2, o)) (h_nx q.2 - h_nx y) (h_sl q.2 - h_sl y) (g_A G) := by
  intro n
  induction n with
  | zero =>
    intro t y q h
    exact absurd h (by simp [f_l_X14_text])
  | succ n ihn =>
    intro t y q h
    unfold f_l_X14_text at h
    refine h_entry (by decide) (by simp [lg_sl, g_catQ, h_ki, h_kr, h_kn, h_kl, h_kd]) (fun p e s m args below meth c ls C0 hl hW hin_ => ?_)
    have hl : lv_has ls 1 [(0, g_rf G (t))] := by simpa [lv_args, g_catQ, h_ki, h_kr, h_kn, h_kl, h_kd] using hl
    refine h_aload_n C0.hx C0.hb dX14_text_0 rfl (lv_at hl 0 rfl) ?_
    obtain ⟨hk1, h⟩ := g_if h
    refine hf_X14_0 C0 hW hk1 tf_X14_7 dX14_text_1 ?_
    by_cases hc2 : (h_I y t 0) = (0 : Int32)
    · replace h := (if_pos hc2).symm.trans h
      refine lv_tableIn (tgt := 108) C0.hx C0.hb dX14_text_4 (by rw [hc2]; decide) (by rw [hc2]; decide) (by rw [hc2]; rfl) (by decide) ?_
      obtain ⟨hn602, h⟩ := g_if h
      refine hno_54 C0 hW hn602 tl_X14_40 dX14_text_108 (fun H hW => ?_)
      refine lv_dup C0.hx C0.hb dX14_text_111 g_catQ ?_
      obtain ⟨hk603, h⟩ := g_if h
      obtain ⟨q604, hq604, h⟩ := Option.bind_eq_some_iff.mp h
      refine h_callv hW (h_runI (As := []) (rest := [g_rf G (h_nx y)]) C0 hW (hW.rf (h_ne hk603 (by decide))) (c_l_J4_init_da8c8 hq604) cy_J4_init_da8c8 (by omega) tm_X14_42 ti_J4_init_da8c8 rfl rfl hl.1 rfl (by simp [g_catQ, h_ki, h_kr, h_kn, h_kl, h_kd]) dX14_text_112) (fun H locs hW => ?_)
      refine h_ldc C0 hW (n := 59) (List.mem_of_getElem? (i := 13) rfl) (by decide) dX14_text_115 ?_
      obtain ⟨hk605, h⟩ := g_if h
      obtain ⟨q606, hq606, h⟩ := Option.bind_eq_some_iff.mp h
      refine h_callr hW (h_runV (As := [.ref (g_sa G (59))]) (rest := []) C0 hW (hW.rf (h_ne hk605 (by decide))) (h_recv C0 hW (h_ne hk605 (by decide)) (h_c54 hk605) rfl) (c_l_J4_append_15ec4 hq606) cy_J4_append_15ec4 (by omega) tm_X14_45 ti_J4_append_15ec4 ts_J4_append_15ec4 rfl hl.1 rfl (Nat.le_of_ble_eq_true rfl) dX14_text_117) (fun H locs hW => ?_)
      refine h_aload_n C0.hx C0.hb dX14_text_120 rfl (lv_at hl 0 rfl) ?_
      obtain ⟨hk607, h⟩ := g_if h
      refine hf_X14_1 C0 hW hk607 tf_X14_13 dX14_text_121 ?_
      obtain ⟨hk608, h⟩ := g_if h
      obtain ⟨q609, hq609, h⟩ := Option.bind_eq_some_iff.mp h
      refine h_callr hW (h_runV (As := [.int (h_I q606.2 t 1)]) (rest := []) C0 hW (hW.rf (h_ne hk608 (by decide))) (h_recv C0 hW (h_ne hk608 (by decide)) (h_c54 hk608) rfl) (c_l_J4_append_bf812 hq609) cy_J4_append_bf812 (by omega) tm_X14_49 ti_J4_append_bf812 ts_J4_append_bf812 rfl hl.1 rfl (Nat.le_of_ble_eq_true rfl) dX14_text_124) (fun H locs hW => ?_)
      obtain ⟨hk610, h⟩ := g_if h
      obtain ⟨q611, hq611, h⟩ := Option.bind_eq_some_iff.mp h
      refine h_callr hW (h_runV (As := []) (rest := []) C0 hW (hW.rf (h_ne hk610 (by decide))) (h_recv C0 hW (h_ne hk610 (by decide)) (h_c54 hk610) rfl) (c_l_J4_toString_0e30d hq611) cy_J4_toString_0e30d (by omega) tm_X14_52 ti_J4_toString_0e30d ts_J4_toString_0e30d rfl hl.1 rfl (Nat.le_of_ble_eq_true rfl) dX14_text_127) (fun H locs hW => ?_)
      obtain rfl := Option.some.inj h
      exact h_aretC C0 hW rfl rfl dX14_text_130
    · replace h := (if_neg hc2).symm.trans h
      by_cases hc3 : (h_I y t 0) = (1 : Int32)
      · replace h := (if_pos hc3).symm.trans h
        refine lv_tableIn (tgt := 131) C0.hx C0.hb dX14_text_4 (by rw [hc3]; decide) (by rw [hc3]; decide) (by rw [hc3]; rfl) (by decide) ?_
        refine h_ldc C0 hW (n := 60) (List.mem_of_getElem? (i := 14) rfl) (by decide) dX14_text_131 ?_
        obtain rfl := Option.some.inj h
        exact h_aretC C0 hW rfl rfl dX14_text_133
      · replace h := (if_neg hc3).symm.trans h
        by_cases hc4 : (h_I y t 0) = (2 : Int32)
        · replace h := (if_pos hc4).symm.trans h
          refine lv_tableIn (tgt := 134) C0.hx C0.hb dX14_text_4 (by rw [hc4]; decide) (by rw [hc4]; decide) (by rw [hc4]; rfl) (by decide) ?_
          refine h_ldc C0 hW (n := 61) (List.mem_of_getElem? (i := 15) rfl) (by decide) dX14_text_134 ?_
          obtain rfl := Option.some.inj h
          exact h_aretC C0 hW rfl rfl dX14_text_136
        · replace h := (if_neg hc4).symm.trans h
          by_cases hc5 : (h_I y t 0) = (3 : Int32)
          · replace h := (if_pos hc5).symm.trans h
            refine lv_tableIn (tgt := 137) C0.hx C0.hb dX14_text_4 (by rw [hc5]; decide) (by rw [hc5]; decide) (by rw [hc5]; rfl) (by decide) ?_
            obtain ⟨hn592, h⟩ := g_if h
            refine hno_54 C0 hW hn592 tl_X14_40 dX14_text_137 (fun H hW => ?_)
            refine lv_dup C0.hx C0.hb dX14_text_140 g_catQ ?_
            obtain ⟨hk593, h⟩ := g_if h
            obtain ⟨q594, hq594, h⟩ := Option.bind_eq_some_iff.mp h
            refine h_callv hW (h_runI (As := []) (rest := [g_rf G (h_nx y)]) C0 hW (hW.rf (h_ne hk593 (by decide))) (c_l_J4_init_da8c8 hq594) cy_J4_init_da8c8 (by omega) tm_X14_42 ti_J4_init_da8c8 rfl rfl hl.1 rfl (by simp [g_catQ, h_ki, h_kr, h_kn, h_kl, h_kd]) dX14_text_141) (fun H locs hW => ?_)
            refine h_ldc C0 hW (n := 62) (List.mem_of_getElem? (i := 16) rfl) (by decide) dX14_text_144 ?_
            obtain ⟨hk595, h⟩ := g_if h
            obtain ⟨q596, hq596, h⟩ := Option.bind_eq_some_iff.mp h
            refine h_callr hW (h_runV (As := [.ref (g_sa G (62))]) (rest := []) C0 hW (hW.rf (h_ne hk595 (by decide))) (h_recv C0 hW (h_ne hk595 (by decide)) (h_c54 hk595) rfl) (c_l_J4_append_15ec4 hq596) cy_J4_append_15ec4 (by omega) tm_X14_45 ti_J4_append_15ec4 ts_J4_append_15ec4 rfl hl.1 rfl (Nat.le_of_ble_eq_true rfl) dX14_text_146) (fun H locs hW => ?_)
            refine h_aload_n C0.hx C0.hb dX14_text_149 rfl (lv_at hl 0 rfl) ?_
            obtain ⟨hk597, h⟩ := g_if h
            refine hf_X14_1 C0 hW hk597 tf_X14_13 dX14_text_150 ?_
            obtain ⟨hk598, h⟩ := g_if h
            obtain ⟨q599, hq599, h⟩ := Option.bind_eq_some_iff.mp h
            refine h_callr hW (h_runV (As := [.int (h_I q596.2 t 1)]) (rest := []) C0 hW (hW.rf (h_ne hk598 (by decide))) (h_recv C0 hW (h_ne hk598 (by decide)) (h_c54 hk598) rfl) (c_l_J4_append_bf812 hq599) cy_J4_append_bf812 (by omega) tm_X14_49 ti_J4_append_bf812 ts_J4_append_bf812 rfl hl.1 rfl (Nat.le_of_ble_eq_true rfl) dX14_text_153) (fun H locs hW => ?_)
            obtain ⟨hk600, h⟩ := g_if h
            obtain ⟨q601, hq601, h⟩ := Option.bind_eq_some_iff.mp h
            refine h_callr hW (h_runV (As := []) (rest := []) C0 hW (hW.rf (h_ne hk600 (by decide))) (h_recv C0 hW (h_ne hk600 (by decide)) (h_c54 hk600) rfl) (c_l_J4_toString_0e30d hq601) cy_J4_toString_0e30d (by omega) tm_X14_52 ti_J4_toString_0e30d ts_J4_toString_0e30d rfl hl.1 rfl (Nat.le_of_ble_eq_true rfl) dX14_text_156) (fun H locs hW => ?_)
            obtain rfl := Option.some.inj h
            exact h_aretC C0 hW rfl rfl dX14_text_159
          · replace h := (if_neg hc5).symm.trans h
            by_cases hc6 : (h_I y t 0) = (4 : Int32)
            · replace h := (if_pos hc6).symm.trans h
              refine lv_tableIn (tgt := 160) C0.hx C0.hb dX14_text_4 (by rw [hc6]; decide) (by rw [hc6]; decide) (by rw [hc6]; rfl) (by decide) ?_
              obtain ⟨hn582, h⟩ := g_if h
              refine hno_54 C0 hW hn582 tl_X14_40 dX14_text_160 (fun H hW => ?_)
              refine lv_dup C0.hx C0.hb dX14_text_163 g_catQ ?_
              obtain ⟨hk583, h⟩ := g_if h
              obtain ⟨q584, hq584, h⟩ := Option.bind_eq_some_iff.mp h
              refine h_callv hW (h_runI (As := []) (rest := [g_rf G (h_nx y)]) C0 hW (hW.rf (h_ne hk583 (by decide))) (c_l_J4_init_da8c8 hq584) cy_J4_init_da8c8 (by omega) tm_X14_42 ti_J4_init_da8c8 rfl rfl hl.1 rfl (by simp [g_catQ, h_ki, h_kr, h_kn, h_kl, h_kd]) dX14_text_164) (fun H locs hW => ?_)
              refine h_ldc C0 hW (n := 63) (List.mem_of_getElem? (i := 17) rfl) (by decide) dX14_text_167 ?_
              obtain ⟨hk585, h⟩ := g_if h
              obtain ⟨q586, hq586, h⟩ := Option.bind_eq_some_iff.mp h
              refine h_callr hW (h_runV (As := [.ref (g_sa G (63))]) (rest := []) C0 hW (hW.rf (h_ne hk585 (by decide))) (h_recv C0 hW (h_ne hk585 (by decide)) (h_c54 hk585) rfl) (c_l_J4_append_15ec4 hq586) cy_J4_append_15ec4 (by omega) tm_X14_45 ti_J4_append_15ec4 ts_J4_append_15ec4 rfl hl.1 rfl (Nat.le_of_ble_eq_true rfl) dX14_text_169) (fun H locs hW => ?_)
              refine h_aload_n C0.hx C0.hb dX14_text_172 rfl (lv_at hl 0 rfl) ?_
              obtain ⟨hk587, h⟩ := g_if h
              refine hf_X14_1 C0 hW hk587 tf_X14_13 dX14_text_173 ?_
              obtain ⟨hk588, h⟩ := g_if h
              obtain ⟨q589, hq589, h⟩ := Option.bind_eq_some_iff.mp h
              refine h_callr hW (h_runV (As := [.int (h_I q586.2 t 1)]) (rest := []) C0 hW (hW.rf (h_ne hk588 (by decide))) (h_recv C0 hW (h_ne hk588 (by decide)) (h_c54 hk588) rfl) (c_l_J4_append_bf812 hq589) cy_J4_append_bf812 (by omega) tm_X14_49 ti_J4_append_bf812 ts_J4_append_bf812 rfl hl.1 rfl (Nat.le_of_ble_eq_true rfl) dX14_text_176) (fun H locs hW => ?_)
              obtain ⟨hk590, h⟩ := g_if h
              obtain ⟨q591, hq591, h⟩ := Option.bind_eq_some_iff.mp h
              refine h_callr hW (h_runV (As := []) (rest := []) C0 hW (hW.rf (h_ne hk590 (by decide))) (h_recv C0 hW (h_ne hk590 (by decide)) (h_c54 hk590) rfl) (c_l_J4_toString_0e30d hq591) cy_J4_toString_0e30d (by omega) tm_X14_52 ti_J4_toString_0e30d ts_J4_toString_0e30d rfl hl.1 rfl (Nat.le_of_ble_eq_true rfl) dX14_text_179) (fun H locs hW => ?_)
              obtain rfl := Option.some.inj h
              exact h_aretC C0 hW rfl rfl dX14_text_182
            · replace h := (if_neg hc6).symm.trans h
              by_cases hc7 : (h_I y t 0) = (5 : Int32)
              · replace h := (if_pos hc7).symm.trans h
                refine lv_tableIn (tgt := 183) C0.hx C0.hb dX14_text_4 (by rw [hc7]; decide) (by rw [hc7]; decide) (by rw [hc7]; rfl) (by decide) ?_
                obtain ⟨hn570, h⟩ := g_if h
                refine hno_54 C0 hW hn570 tl_X14_40 dX14_text_183 (fun H hW => ?_)
                refine lv_dup C0.hx C0.hb dX14_text_186 g_catQ ?_
                obtain ⟨hk571, h⟩ := g_if h
                obtain ⟨q572, hq572, h⟩ := Option.bind_eq_some_iff.mp h
                refine h_callv hW (h_runI (As := []) (rest := [g_rf G (h_nx y)]) C0 hW (hW.rf (h_ne hk571 (by decide))) (c_l_J4_init_da8c8 hq572) cy_J4_init_da8c8 (by omega) tm_X14_42 ti_J4_init_da8c8 rfl rfl hl.1 rfl (by simp [g_catQ, h_ki, h_kr, h_kn, h_kl, h_kd]) dX14_text_187) (fun H locs hW => ?_)
                refine h_ldc C0 hW (n := 64) (List.mem_of_getElem? (i := 18) rfl) (by decide) dX14_text_190 ?_
                obtain ⟨hk573, h⟩ := g_if h
                obtain ⟨q574, hq574, h⟩ := Option.bind_eq_some_iff.mp h
                refine h_callr hW (h_runV (As := [.ref (g_sa G (64))]) (rest := []) C0 hW (hW.rf (h_ne hk573 (by decide))) (h_recv C0 hW (h_ne hk573 (by decide)) (h_c54 hk573) rfl) (c_l_J4_append_15ec4 hq574) cy_J4_append_15ec4 (by omega) tm_X14_45 ti_J4_append_15ec4 ts_J4_append_15ec4 rfl hl.1 rfl (Nat.le_of_ble_eq_true rfl) dX14_text_192) (fun H locs hW => ?_)
                refine h_aload_n C0.hx C0.hb dX14_text_195 rfl (lv_at hl 0 rfl) ?_
                obtain ⟨hk575, h⟩ := g_if h
                refine hf_X14_2 C0 hW hk575 tf_X14_16 dX14_text_196 ?_
                obtain ⟨hk576, h⟩ := g_if h
                obtain ⟨q577, hq577, h⟩ := Option.bind_eq_some_iff.mp h
                refine h_callr hW (h_runV (As := []) (rest := [g_rf G (q574.1)]) C0 hW (hW.rf (h_ne hk576 (by decide))) (h_recv C0 hW (h_ne hk576 (by decide)) (h_c51 hk576) rfl) (ihn _ _ _ hq577) cy_X14_text (by omega) tm_X14_66 ti_X14_text ts_X14_text rfl hl.1 rfl (by simp [g_catQ, h_ki, h_kr, h_kn, h_kl, h_kd]) dX14_text_199) (fun H locs hW => ?_)
                obtain ⟨hk578, h⟩ := g_if h
                obtain ⟨q579, hq579, h⟩ := Option.bind_eq_some_iff.mp h
                refine h_callr hW (h_runV (As := [.ref (g_sa G (q577.1))]) (rest := []) C0 hW (hW.rf (h_ne hk578 (by decide))) (h_recv C0 hW (h_ne hk578 (by decide)) (h_c54 hk578) rfl) (c_l_J4_append_15ec4 hq579) cy_J4_append_15ec4 (by omega) tm_X14_45 ti_J4_append_15ec4 ts_J4_append_15ec4 rfl hl.1 rfl (Nat.le_of_ble_eq_true rfl) dX14_text_202) (fun H locs hW => ?_)
                obtain ⟨hk580, h⟩ := g_if h
                obtain ⟨q581, hq581, h⟩ := Option.bind_eq_some_iff.mp h
                refine h_callr hW (h_runV (As := []) (rest := []) C0 hW (hW.rf (h_ne hk580 (by decide))) (h_recv C0 hW (h_ne hk580 (by decide)) (h_c54 hk580) rfl) (c_l_J4_toString_0e30d hq581) cy_J4_toString_0e30d (by omega) tm_X14_52 ti_J4_toString_0e30d ts_J4_toString_0e30d rfl hl.1 rfl (Nat.le_of_ble_eq_true rfl) dX14_text_205) (fun H locs hW => ?_)
                obtain rfl := Option.some.inj h
                exact h_aretC C0 hW rfl rfl dX14_text_208
              · replace h := (if_neg hc7).symm.trans h
                by_cases hc8 : (h_I y t 0) = (6 : Int32)
                · replace h := (if_pos hc8).symm.trans h
                  refine lv_tableIn (tgt := 209) C0.hx C0.hb dX14_text_4 (by rw [hc8]; decide) (by rw [hc8]; decide) (by rw [hc8]; rfl) (by decide) ?_
                  obtain ⟨hn549, h⟩ := g_if h
                  refine hno_54 C0 hW hn549 tl_X14_40 dX14_text_209 (fun H hW => ?_)
                  refine lv_dup C0.hx C0.hb dX14_text_212 g_catQ ?_
                  obtain ⟨hk550, h⟩ := g_if h
                  obtain ⟨q551, hq551, h⟩ := Option.bind_eq_some_iff.mp h
                  refine h_callv hW (h_runI (As := []) (rest := [g_rf G (h_nx y)]) C0 hW (hW.rf (h_ne hk550 (by decide))) (c_l_J4_init_da8c8 hq551) cy_J4_init_da8c8 (by omega) tm_X14_42 ti_J4_init_da8c8 rfl rfl hl.1 rfl (by simp [g_catQ, h_ki, h_kr, h_kn, h_kl, h_kd]) dX14_text_213) (fun H locs hW => ?_)
                  refine h_ldc C0 hW (n := 65) (List.mem_of_getElem? (i := 19) rfl) (by decide) dX14_text_216 ?_
                  obtain ⟨hk552, h⟩ := g_if h
                  obtain ⟨q553, hq553, h⟩ := Option.bind_eq_some_iff.mp h
                  refine h_callr hW (h_runV (As := [.ref (g_sa G (65))]) (rest := []) C0 hW (hW.rf (h_ne hk552 (by decide))) (h_recv C0 hW (h_ne hk552 (by decide)) (h_c54 hk552) rfl) (c_l_J4_append_15ec4 hq553) cy_J4_append_15ec4 (by omega) tm_X14_45 ti_J4_append_15ec4 ts_J4_append_15ec4 rfl hl.1 rfl (Nat.le_of_ble_eq_true rfl) dX14_text_218) (fun H locs hW => ?_)
                  refine h_aload_n C0.hx C0.hb dX14_text_221 rfl (lv_at hl 0 rfl) ?_
                  obtain ⟨hk554, h⟩ := g_if h
                  refine hf_X14_2 C0 hW hk554 tf_X14_16 dX14_text_222 ?_
                  obtain ⟨hk555, h⟩ := g_if h
                  obtain ⟨q556, hq556, h⟩ := Option.bind_eq_some_iff.mp h
                  refine h_callr hW (h_runV (As := []) (rest := [g_rf G (q553.1)]) C0 hW (hW.rf (h_ne hk555 (by decide))) (h_recv C0 hW (h_ne hk555 (by decide)) (h_c51 hk555) rfl) (ihn _ _ _ hq556) cy_X14_text (by omega) tm_X14_66 ti_X14_text ts_X14_text rfl hl.1 rfl (by simp [g_catQ, h_ki, h_kr, h_kn, h_kl, h_kd]) dX14_text_225) (fun H locs hW => ?_)
                  obtain ⟨hk557, h⟩ := g_if h
                  obtain ⟨q558, hq558, h⟩ := Option.bind_eq_some_iff.mp h
                  refine h_callr hW (h_runV (As := [.ref (g_sa G (q556.1))]) (rest := []) C0 hW (hW.rf (h_ne hk557 (by decide))) (h_recv C0 hW (h_ne hk557 (by decide)) (h_c54 hk557) rfl) (c_l_J4_append_15ec4 hq558) cy_J4_append_15ec4 (by omega) tm_X14_45 ti_J4_append_15ec4 ts_J4_append_15ec4 rfl hl.1 rfl (Nat.le_of_ble_eq_true rfl) dX14_text_228) (fun H locs hW => ?_)
                  refine h_ldc C0 hW (n := 66) (List.mem_of_getElem? (i := 20) rfl) (by decide) dX14_text_231 ?_
                  obtain ⟨hk559, h⟩ := g_if h
                  obtain ⟨q560, hq560, h⟩ := Option.bind_eq_some_iff.mp h
                  refine h_callr hW (h_runV (As := [.ref (g_sa G (66))]) (rest := []) C0 hW (hW.rf (h_ne hk559 (by decide))) (h_recv C0 hW (h_ne hk559 (by decide)) (h_c54 hk559) rfl) (c_l_J4_append_15ec4 hq560) cy_J4_append_15ec4 (by omega) tm_X14_45 ti_J4_append_15ec4 ts_J4_append_15ec4 rfl hl.1 rfl (Nat.le_of_ble_eq_true rfl) dX14_text_233) (fun H locs hW => ?_)
                  refine h_aload_n C0.hx C0.hb dX14_text_236 rfl (lv_at hl 0 rfl) ?_
                  obtain ⟨hk561, h⟩ := g_if h
                  refine hf_X14_3 C0 hW hk561 tf_X14_20 dX14_text_237 ?_
                  obtain ⟨hk562, h⟩ := g_if h
                  obtain ⟨q563, hq563, h⟩ := Option.bind_eq_some_iff.mp h
                  refine h_callr hW (h_runV (As := []) (rest := [g_rf G (q560.1)]) C0 hW (hW.rf (h_ne hk562 (by decide))) (h_recv C0 hW (h_ne hk562 (by decide)) (h_c51 hk562) rfl) (ihn _ _ _ hq563) cy_X14_text (by omega) tm_X14_66 ti_X14_text ts_X14_text rfl hl.1 rfl (by simp [g_catQ, h_ki, h_kr, h_kn, h_kl, h_kd]) dX14_text_240) (fun H locs hW => ?_)
                  obtain ⟨hk564, h⟩ := g_if h
                  obtain ⟨q565, hq565, h⟩ := Option.bind_eq_some_iff.mp h
                  refine h_callr hW (h_runV (As := [.ref (g_sa G (q563.1))]) (rest := []) C0 hW (hW.rf (h_ne hk564 (by decide))) (h_recv C0 hW (h_ne hk564 (by decide)) (h_c54 hk564) rfl) (c_l_J4_append_15ec4 hq565) cy_J4_append_15ec4 (by omega) tm_X14_45 ti_J4_append_15ec4 ts_J4_append_15ec4 rfl hl.1 rfl (Nat.le_of_ble_eq_true rfl) dX14_text_243) (fun H locs hW => ?_)
                  refine h_ldc C0 hW (n := 67) (List.mem_of_getElem? (i := 21) rfl) (by decide) dX14_text_246 ?_
                  obtain ⟨hk566, h⟩ := g_if h
                  obtain ⟨q567, hq567, h⟩ := Option.bind_eq_some_iff.mp h
                  refine h_callr hW (h_runV (As := [.ref (g_sa G (67))]) (rest := []) C0 hW (hW.rf (h_ne hk566 (by decide))) (h_recv C0 hW (h_ne hk566 (by decide)) (h_c54 hk566) rfl) (c_l_J4_append_15ec4 hq567) cy_J4_append_15ec4 (by omega) tm_X14_45 ti_J4_append_15ec4 ts_J4_append_15ec4 rfl hl.1 rfl (Nat.le_of_ble_eq_true rfl) dX14_text_248) (fun H locs hW => ?_)
                  obtain ⟨hk568, h⟩ := g_if h
                  obtain ⟨q569, hq569, h⟩ := Option.bind_eq_some_iff.mp h
                  refine h_callr hW (h_runV (As := []) (rest := []) C0 hW (hW.rf (h_ne hk568 (by decide))) (h_recv C0 hW (h_ne hk568 (by decide)) (h_c54 hk568) rfl) (c_l_J4_toString_0e30d hq569) cy_J4_toString_0e30d (by omega) tm_X14_52 ti_J4_toString_0e30d ts_J4_toString_0e30d rfl hl.1 rfl (Nat.le_of_ble_eq_true rfl) dX14_text_251) (fun H locs hW => ?_)
                  obtain rfl := Option.some.inj h
                  exact h_aretC C0 hW rfl rfl dX14_text_254
                · replace h := (if_neg hc8).symm.trans h
                  by_cases hc9 : (h_I y t 0) = (7 : Int32)
                  · replace h := (if_pos hc9).symm.trans h
                    refine lv_tableIn (tgt := 255) C0.hx C0.hb dX14_text_4 (by rw [hc9]; decide) (by rw [hc9]; decide) (by rw [hc9]; rfl) (by decide) ?_
                    obtain ⟨hn528, h⟩ := g_if h
                    refine hno_54 C0 hW hn528 tl_X14_40 dX14_text_255 (fun H hW => ?_)
                    refine lv_dup C0.hx C0.hb dX14_text_258 g_catQ ?_
                    obtain ⟨hk529, h⟩ := g_if h
                    obtain ⟨q530, hq530, h⟩ := Option.bind_eq_some_iff.mp h
                    refine h_callv hW (h_runI (As := []) (rest := [g_rf G (h_nx y)]) C0 hW (hW.rf (h_ne hk529 (by decide))) (c_l_J4_init_da8c8 hq530) cy_J4_init_da8c8 (by omega) tm_X14_42 ti_J4_init_da8c8 rfl rfl hl.1 rfl (by simp [g_catQ, h_ki, h_kr, h_kn, h_kl, h_kd]) dX14_text_259) (fun H locs hW => ?_)
                    refine h_ldc C0 hW (n := 68) (List.mem_of_getElem? (i := 22) rfl) (by decide) dX14_text_262 ?_
                    obtain ⟨hk531, h⟩ := g_if h
                    obtain ⟨q532, hq532, h⟩ := Option.bind_eq_some_iff.mp h
                    refine h_callr hW (h_runV (As := [.ref (g_sa G (68))]) (rest := []) C0 hW (hW.rf (h_ne hk531 (by decide))) (h_recv C0 hW (h_ne hk531 (by decide)) (h_c54 hk531) rfl) (c_l_J4_append_15ec4 hq532) cy_J4_append_15ec4 (by omega) tm_X14_45 ti_J4_append_15ec4 ts_J4_append_15ec4 rfl hl.1 rfl (Nat.le_of_ble_eq_true rfl) dX14_text_264) (fun H locs hW => ?_)
                    refine h_aload_n C0.hx C0.hb dX14_text_267 rfl (lv_at hl 0 rfl) ?_
                    obtain ⟨hk533, h⟩ := g_if h
                    refine hf_X14_2 C0 hW hk533 tf_X14_16 dX14_text_268 ?_
                    obtain ⟨hk534, h⟩ := g_if h
                    obtain ⟨q535, hq535, h⟩ := Option.bind_eq_some_iff.mp h
                    refine h_callr hW (h_runV (As := []) (rest := [g_rf G (q532.1)]) C0 hW (hW.rf (h_ne hk534 (by decide))) (h_recv C0 hW (h_ne hk534 (by decide)) (h_c51 hk534) rfl) (ihn _ _ _ hq535) cy_X14_text (by omega) tm_X14_66 ti_X14_text ts_X14_text rfl hl.1 rfl (by simp [g_catQ, h_ki, h_kr, h_kn, h_kl, h_kd]) dX14_text_271) (fun H locs hW => ?_)
                    obtain ⟨hk536, h⟩ := g_if h
                    obtain ⟨q537, hq537, h⟩ := Option.bind_eq_some_iff.mp h
                    refine h_callr hW (h_runV (As := [.ref (g_sa G (q535.1))]) (rest := []) C0 hW (hW.rf (h_ne hk536 (by decide))) (h_recv C0 hW (h_ne hk536 (by decide)) (h_c54 hk536) rfl) (c_l_J4_append_15ec4 hq537) cy_J4_append_15ec4 (by omega) tm_X14_45 ti_J4_append_15ec4 ts_J4_append_15ec4 rfl hl.1 rfl (Nat.le_of_ble_eq_true rfl) dX14_text_274) (fun H locs hW => ?_)
                    refine h_ldc C0 hW (n := 69) (List.mem_of_getElem? (i := 23) rfl) (by decide) dX14_text_277 ?_
                    obtain ⟨hk538, h⟩ := g_if h
                    obtain ⟨q539, hq539, h⟩ := Option.bind_eq_some_iff.mp h
                    refine h_callr hW (h_runV (As := [.ref (g_sa G (69))]) (rest := []) C0 hW (hW.rf (h_ne hk538 (by decide))) (h_recv C0 hW (h_ne hk538 (by decide)) (h_c54 hk538) rfl) (c_l_J4_append_15ec4 hq539) cy_J4_append_15ec4 (by omega) tm_X14_45 ti_J4_append_15ec4 ts_J4_append_15ec4 rfl hl.1 rfl (Nat.le_of_ble_eq_true rfl) dX14_text_279) (fun H locs hW => ?_)
                    refine h_aload_n C0.hx C0.hb dX14_text_282 rfl (lv_at hl 0 rfl) ?_
                    obtain ⟨hk540, h⟩ := g_if h
                    refine hf_X14_3 C0 hW hk540 tf_X14_20 dX14_text_283 ?_
                    obtain ⟨hk541, h⟩ := g_if h
                    obtain ⟨q542, hq542, h⟩ := Option.bind_eq_some_iff.mp h
                    refine h_callr hW (h_runV (As := []) (rest := [g_rf G (q539.1)]) C0 hW (hW.rf (h_ne hk541 (by decide))) (h_recv C0 hW (h_ne hk541 (by decide)) (h_c51 hk541) rfl) (ihn _ _ _ hq542) cy_X14_text (by omega) tm_X14_66 ti_X14_text ts_X14_text rfl hl.1 rfl (by simp [g_catQ, h_ki, h_kr, h_kn, h_kl, h_kd]) dX14_text_286) (fun H locs hW => ?_)
                    obtain ⟨hk543, h⟩ := g_if h
                    obtain ⟨q544, hq544, h⟩ := Option.bind_eq_some_iff.mp h
                    refine h_callr hW (h_runV (As := [.ref (g_sa G (q542.1))]) (rest := []) C0 hW (hW.rf (h_ne hk543 (by decide))) (h_recv C0 hW (h_ne hk543 (by decide)) (h_c54 hk543) rfl) (c_l_J4_append_15ec4 hq544) cy_J4_append_15ec4 (by omega) tm_X14_45 ti_J4_append_15ec4 ts_J4_append_15ec4 rfl hl.1 rfl (Nat.le_of_ble_eq_true rfl) dX14_text_289) (fun H locs hW => ?_)
                    refine h_ldc C0 hW (n := 67) (List.mem_of_getElem? (i := 21) rfl) (by decide) dX14_text_292 ?_
                    obtain ⟨hk545, h⟩ := g_if h
                    obtain ⟨q546, hq546, h⟩ := Option.bind_eq_some_iff.mp h
                    refine h_callr hW (h_runV (As := [.ref (g_sa G (67))]) (rest := []) C0 hW (hW.rf (h_ne hk545 (by decide))) (h_recv C0 hW (h_ne hk545 (by decide)) (h_c54 hk545) rfl) (c_l_J4_append_15ec4 hq546) cy_J4_append_15ec4 (by omega) tm_X14_45 ti_J4_append_15ec4 ts_J4_append_15ec4 rfl hl.1 rfl (Nat.le_of_ble_eq_true rfl) dX14_text_294) (fun H locs hW => ?_)
                    obtain ⟨hk547, h⟩ := g_if h
                    obtain ⟨q548, hq548, h⟩ := Option.bind_eq_some_iff.mp h
                    refine h_callr hW (h_runV (As := []) (rest := []) C0 hW (hW.rf (h_ne hk547 (by decide))) (h_recv C0 hW (h_ne hk547 (by decide)) (h_c54 hk547) rfl) (c_l_J4_toString_0e30d hq548) cy_J4_toString_0e30d (by omega) tm_X14_52 ti_J4_toString_0e30d ts_J4_toString_0e30d rfl hl.1 rfl (Nat.le_of_ble_eq_true rfl) dX14_text_297) (fun H locs hW => ?_)
                    obtain rfl := Option.some.inj h
                    exact h_aretC C0 hW rfl rfl dX14_text_300
                  · replace h := (if_neg hc9).symm.trans h
                    by_cases hc10 : (h_I y t 0) = (8 : Int32)
                    · replace h := (if_pos hc10).symm.trans h
                      refine lv_tableIn (tgt := 465) C0.hx C0.hb dX14_text_4 (by rw [hc10]; decide) (by rw [hc10]; decide) (by rw [hc10]; rfl) (by decide) ?_
                      refine h_aload_n C0.hx C0.hb dX14_text_465 rfl (lv_at hl 0 rfl) ?_
                      refine hf_X14_0 C0 hW hk1 tf_X14_7 dX14_text_466 ?_
                      refine lv_bipush (v := (12 : Int32)) C0.hx C0.hb dX14_text_469 (by decide) ?_
                      refine lv_icmp_ge (tgt := 531) C0.hx C0.hb dX14_text_471 (by decide) (fun hc485 => ?_) (fun hc485 => ?_)
                      · replace h := (if_pos hc485).symm.trans h
                        obtain ⟨hn486, h⟩ := g_if h
                        refine hno_54 C0 hW hn486 tl_X14_40 dX14_text_531 (fun H hW => ?_)
                        refine lv_dup C0.hx C0.hb dX14_text_534 g_catQ ?_
                        obtain ⟨hk487, h⟩ := g_if h
                        obtain ⟨q488, hq488, h⟩ := Option.bind_eq_some_iff.mp h
                        refine h_callv hW (h_runI (As := []) (rest := [g_rf G (h_nx y)]) C0 hW (hW.rf (h_ne hk487 (by decide))) (c_l_J4_init_da8c8 hq488) cy_J4_init_da8c8 (by omega) tm_X14_42 ti_J4_init_da8c8 rfl rfl hl.1 rfl (by simp [g_catQ, h_ki, h_kr, h_kn, h_kl, h_kd]) dX14_text_535) (fun H locs hW => ?_)
                        refine h_aload_n C0.hx C0.hb dX14_text_538 rfl (lv_at hl 0 rfl) ?_
                        obtain ⟨hk489, h⟩ := g_if h
                        refine hf_X14_2 C0 hW hk489 tf_X14_16 dX14_text_539 ?_
                        obtain ⟨hk490, h⟩ := g_if h
                        obtain ⟨q491, hq491, h⟩ := Option.bind_eq_some_iff.mp h
                        refine h_callr hW (h_runV (As := []) (rest := [g_rf G (h_nx y)]) C0 hW (hW.rf (h_ne hk490 (by decide))) (h_recv C0 hW (h_ne hk490 (by decide)) (h_c51 hk490) rfl) (ihn _ _ _ hq491) cy_X14_text (by omega) tm_X14_66 ti_X14_text ts_X14_text rfl hl.1 rfl (by simp [g_catQ, h_ki, h_kr, h_kn, h_kl, h_kd]) dX14_text_542) (fun H locs hW => ?_)
                        obtain ⟨hk492, h⟩ := g_if h
                        obtain ⟨q493, hq493, h⟩ := Option.bind_eq_some_iff.mp h
                        refine h_callr hW (h_runV (As := [.ref (g_sa G (q491.1))]) (rest := []) C0 hW (hW.rf (h_ne hk492 (by decide))) (h_recv C0 hW (h_ne hk492 (by decide)) (h_c54 hk492) rfl) (c_l_J4_append_15ec4 hq493) cy_J4_append_15ec4 (by omega) tm_X14_45 ti_J4_append_15ec4 ts_J4_append_15ec4 rfl hl.1 rfl (Nat.le_of_ble_eq_true rfl) dX14_text_545) (fun H locs hW => ?_)
                        refine h_SGN C0 hW tfN_X14_95 dX14_text_548 ?_
                        refine h_aload_n C0.hx C0.hb dX14_text_551 rfl (lv_at hl 0 rfl) ?_
                        obtain ⟨hk494, h⟩ := g_if h
                        refine hf_X14_0 C0 hW hk494 tf_X14_7 dX14_text_552 ?_
                        refine lv_bipush (v := (8 : Int32)) C0.hx C0.hb dX14_text_555 (by decide) ?_
                        refine lv_isub C0.hx C0.hb dX14_text_557 ?_
                        obtain ⟨hn495, h⟩ := g_if h
                        refine h_SGat C0 hW hn495 dX14_text_558 ?_
                        obtain ⟨hk496, h⟩ := g_if h
                        obtain ⟨q497, hq497, h⟩ := Option.bind_eq_some_iff.mp h
                        refine h_callr hW (h_runV (As := [.ref (g_sa G (84 + ((h_I q493.2 t 0) - (8 : Int32)).toNatClampNeg))]) (rest := []) C0 hW (hW.rf (h_ne hk496 (by decide))) (h_recv C0 hW (h_ne hk496 (by decide)) (h_c54 hk496) rfl) (c_l_J4_append_15ec4 hq497) cy_J4_append_15ec4 (by omega) tm_X14_45 ti_J4_append_15ec4 ts_J4_append_15ec4 rfl hl.1 rfl (Nat.le_of_ble_eq_true rfl) dX14_text_559) (fun H locs hW => ?_)
                        refine h_aload_n C0.hx C0.hb dX14_text_562 rfl (lv_at hl 0 rfl) ?_
                        obtain ⟨hk498, h⟩ := g_if h
                        refine hf_X14_3 C0 hW hk498 tf_X14_20 dX14_text_563 ?_
                        obtain ⟨hk499, h⟩ := g_if h
                        obtain ⟨q500, hq500, h⟩ := Option.bind_eq_some_iff.mp h
                        refine h_callr hW (h_runV (As := []) (rest := [g_rf G (q497.1)]) C0 hW (hW.rf (h_ne hk499 (by decide))) (h_recv C0 hW (h_ne hk499 (by decide)) (h_c51 hk499) rfl) (ihn _ _ _ hq500) cy_X14_text (by omega) tm_X14_66 ti_X14_text ts_X14_text rfl hl.1 rfl (by simp [g_catQ, h_ki, h_kr, h_kn, h_kl, h_kd]) dX14_text_566) (fun H locs hW => ?_)
                        obtain ⟨hk501, h⟩ := g_if h
                        obtain ⟨q502, hq502, h⟩ := Option.bind_eq_some_iff.mp h
                        refine h_callr hW (h_runV (As := [.ref (g_sa G (q500.1))]) (rest := []) C0 hW (hW.rf (h_ne hk501 (by decide))) (h_recv C0 hW (h_ne hk501 (by decide)) (h_c54 hk501) rfl) (c_l_J4_append_15ec4 hq502) cy_J4_append_15ec4 (by omega) tm_X14_45 ti_J4_append_15ec4 ts_J4_append_15ec4 rfl hl.1 rfl (Nat.le_of_ble_eq_true rfl) dX14_text_569) (fun H locs hW => ?_)
                        obtain ⟨hk503, h⟩ := g_if h
                        obtain ⟨q504, hq504, h⟩ := Option.bind_eq_some_iff.mp h
                        refine h_callr hW (h_runV (As := []) (rest := []) C0 hW (hW.rf (h_ne hk503 (by decide))) (h_recv C0 hW (h_ne hk503 (by decide)) (h_c54 hk503) rfl) (c_l_J4_toString_0e30d hq504) cy_J4_toString_0e30d (by omega) tm_X14_52 ti_J4_toString_0e30d ts_J4_toString_0e30d rfl hl.1 rfl (Nat.le_of_ble_eq_true rfl) dX14_text_572) (fun H locs hW => ?_)
                        obtain rfl := Option.some.inj h
                        exact h_aretC C0 hW rfl rfl dX14_text_575
                      · replace h := (if_neg hc485).symm.trans h
                        obtain ⟨hn505, h⟩ := g_if h
                        refine hno_54 C0 hW hn505 tl_X14_40 dX14_text_474 (fun H hW => ?_)
                        refine lv_dup C0.hx C0.hb dX14_text_477 g_catQ ?_
                        obtain ⟨hk506, h⟩ := g_if h
                        obtain ⟨q507, hq507, h⟩ := Option.bind_eq_some_iff.mp h
                        refine h_callv hW (h_runI (As := []) (rest := [g_rf G (h_nx y)]) C0 hW (hW.rf (h_ne hk506 (by decide))) (c_l_J4_init_da8c8 hq507) cy_J4_init_da8c8 (by omega) tm_X14_42 ti_J4_init_da8c8 rfl rfl hl.1 rfl (by simp [g_catQ, h_ki, h_kr, h_kn, h_kl, h_kd]) dX14_text_478) (fun H locs hW => ?_)
                        refine h_ldc C0 hW (n := 77) (List.mem_of_getElem? (i := 31) rfl) (by decide) dX14_text_481 ?_
                        obtain ⟨hk508, h⟩ := g_if h
                        obtain ⟨q509, hq509, h⟩ := Option.bind_eq_some_iff.mp h
                        refine h_callr hW (h_runV (As := [.ref (g_sa G (77))]) (rest := []) C0 hW (hW.rf (h_ne hk508 (by decide))) (h_recv C0 hW (h_ne hk508 (by decide)) (h_c54 hk508) rfl) (c_l_J4_append_15ec4 hq509) cy_J4_append_15ec4 (by omega) tm_X14_45 ti_J4_append_15ec4 ts_J4_append_15ec4 rfl hl.1 rfl (Nat.le_of_ble_eq_true rfl) dX14_text_483) (fun H locs hW => ?_)
                        refine h_aload_n C0.hx C0.hb dX14_text_486 rfl (lv_at hl 0 rfl) ?_
                        obtain ⟨hk510, h⟩ := g_if h
                        refine hf_X14_2 C0 hW hk510 tf_X14_16 dX14_text_487 ?_
                        obtain ⟨hk511, h⟩ := g_if h
                        obtain ⟨q512, hq512, h⟩ := Option.bind_eq_some_iff.mp h
                        refine h_callr hW (h_runV (As := []) (rest := [g_rf G (q509.1)]) C0 hW (hW.rf (h_ne hk511 (by decide))) (h_recv C0 hW (h_ne hk511 (by decide)) (h_c51 hk511) rfl) (ihn _ _ _ hq512) cy_X14_text (by omega) tm_X14_66 ti_X14_text ts_X14_text rfl hl.1 rfl (by simp [g_catQ, h_ki, h_kr, h_kn, h_kl, h_kd]) dX14_text_490) (fun H locs hW => ?_)
                        obtain ⟨hk513, h⟩ := g_if h
                        obtain ⟨q514, hq514, h⟩ := Option.bind_eq_some_iff.mp h
                        refine h_callr hW (h_runV (As := [.ref (g_sa G (q512.1))]) (rest := []) C0 hW (hW.rf (h_ne hk513 (by decide))) (h_recv C0 hW (h_ne hk513 (by decide)) (h_c54 hk513) rfl) (c_l_J4_append_15ec4 hq514) cy_J4_append_15ec4 (by omega) tm_X14_45 ti_J4_append_15ec4 ts_J4_append_15ec4 rfl hl.1 rfl (Nat.le_of_ble_eq_true rfl) dX14_text_493) (fun H locs hW => ?_)
                        refine h_SGN C0 hW tfN_X14_95 dX14_text_496 ?_
                        refine h_aload_n C0.hx C0.hb dX14_text_499 rfl (lv_at hl 0 rfl) ?_
                        obtain ⟨hk515, h⟩ := g_if h
                        refine hf_X14_0 C0 hW hk515 tf_X14_7 dX14_text_500 ?_
                        refine lv_bipush (v := (8 : Int32)) C0.hx C0.hb dX14_text_503 (by decide) ?_
                        refine lv_isub C0.hx C0.hb dX14_text_505 ?_
                        obtain ⟨hn516, h⟩ := g_if h
                        refine h_SGat C0 hW hn516 dX14_text_506 ?_
                        obtain ⟨hk517, h⟩ := g_if h
                        obtain ⟨q518, hq518, h⟩ := Option.bind_eq_some_iff.mp h
                        refine h_callr hW (h_runV (As := [.ref (g_sa G (84 + ((h_I q514.2 t 0) - (8 : Int32)).toNatClampNeg))]) (rest := []) C0 hW (hW.rf (h_ne hk517 (by decide))) (h_recv C0 hW (h_ne hk517 (by decide)) (h_c54 hk517) rfl) (c_l_J4_append_15ec4 hq518) cy_J4_append_15ec4 (by omega) tm_X14_45 ti_J4_append_15ec4 ts_J4_append_15ec4 rfl hl.1 rfl (Nat.le_of_ble_eq_true rfl) dX14_text_507) (fun H locs hW => ?_)
                        refine h_aload_n C0.hx C0.hb dX14_text_510 rfl (lv_at hl 0 rfl) ?_
                        obtain ⟨hk519, h⟩ := g_if h
                        refine hf_X14_3 C0 hW hk519 tf_X14_20 dX14_text_511 ?_
                        obtain ⟨hk520, h⟩ := g_if h
                        obtain ⟨q521, hq521, h⟩ := Option.bind_eq_some_iff.mp h
                        refine h_callr hW (h_runV (As := []) (rest := [g_rf G (q518.1)]) C0 hW (hW.rf (h_ne hk520 (by decide))) (h_recv C0 hW (h_ne hk520 (by decide)) (h_c51 hk520) rfl) (ihn _ _ _ hq521) cy_X14_text (by omega) tm_X14_66 ti_X14_text ts_X14_text rfl hl.1 rfl (by simp [g_catQ, h_ki, h_kr, h_kn, h_kl, h_kd]) dX14_text_514) (fun H locs hW => ?_)
                        obtain ⟨hk522, h⟩ := g_if h
                        obtain ⟨q523, hq523, h⟩ := Option.bind_eq_some_iff.mp h
                        refine h_callr hW (h_runV (As := [.ref (g_sa G (q521.1))]) (rest := []) C0 hW (hW.rf (h_ne hk522 (by decide))) (h_recv C0 hW (h_ne hk522 (by decide)) (h_c54 hk522) rfl) (c_l_J4_append_15ec4 hq523) cy_J4_append_15ec4 (by omega) tm_X14_45 ti_J4_append_15ec4 ts_J4_append_15ec4 rfl hl.1 rfl (Nat.le_of_ble_eq_true rfl) dX14_text_517) (fun H locs hW => ?_)
                        refine h_ldc C0 hW (n := 67) (List.mem_of_getElem? (i := 21) rfl) (by decide) dX14_text_520 ?_
                        obtain ⟨hk524, h⟩ := g_if h
                        obtain ⟨q525, hq525, h⟩ := Option.bind_eq_some_iff.mp h
                        refine h_callr hW (h_runV (As := [.ref (g_sa G (67))]) (rest := []) C0 hW (hW.rf (h_ne hk524 (by decide))) (h_recv C0 hW (h_ne hk524 (by decide)) (h_c54 hk524) rfl) (c_l_J4_append_15ec4 hq525) cy_J4_append_15ec4 (by omega) tm_X14_45 ti_J4_append_15ec4 ts_J4_append_15ec4 rfl hl.1 rfl (Nat.le_of_ble_eq_true rfl) dX14_text_522) (fun H locs hW => ?_)
                        obtain ⟨hk526, h⟩ := g_if h
                        obtain ⟨q527, hq527, h⟩ := Option.bind_eq_some_iff.mp h
                        refine h_callr hW (h_runV (As := []) (rest := []) C0 hW (hW.rf (h_ne hk526 (by decide))) (h_recv C0 hW (h_ne hk526 (by decide)) (h_c54 hk526) rfl) (c_l_J4_toString_0e30d hq527) cy_J4_toString_0e30d (by omega) tm_X14_52 ti_J4_toString_0e30d ts_J4_toString_0e30d rfl hl.1 rfl (Nat.le_of_ble_eq_true rfl) dX14_text_525) (fun H locs hW => ?_)
                        refine lv_goto (tgt := 575) C0.hx C0.hb dX14_text_528 (by decide) ?_
                        obtain rfl := Option.some.inj h
                        exact h_aretC C0 hW rfl rfl dX14_text_575
                    · replace h := (if_neg hc10).symm.trans h
                      by_cases hc11 : (h_I y t 0) = (9 : Int32)
                      · replace h := (if_pos hc11).symm.trans h
                        refine lv_tableIn (tgt := 465) C0.hx C0.hb dX14_text_4 (by rw [hc11]; decide) (by rw [hc11]; decide) (by rw [hc11]; rfl) (by decide) ?_
                        refine h_aload_n C0.hx C0.hb dX14_text_465 rfl (lv_at hl 0 rfl) ?_
                        refine hf_X14_0 C0 hW hk1 tf_X14_7 dX14_text_466 ?_
                        refine lv_bipush (v := (12 : Int32)) C0.hx C0.hb dX14_text_469 (by decide) ?_
                        refine lv_icmp_ge (tgt := 531) C0.hx C0.hb dX14_text_471 (by decide) (fun hc442 => ?_) (fun hc442 => ?_)
                        · replace h := (if_pos hc442).symm.trans h
                          obtain ⟨hn443, h⟩ := g_if h
                          refine hno_54 C0 hW hn443 tl_X14_40 dX14_text_531 (fun H hW => ?_)
                          refine lv_dup C0.hx C0.hb dX14_text_534 g_catQ ?_
                          obtain ⟨hk444, h⟩ := g_if h
                          obtain ⟨q445, hq445, h⟩ := Option.bind_eq_some_iff.mp h
                          refine h_callv hW (h_runI (As := []) (rest := [g_rf G (h_nx y)]) C0 hW (hW.rf (h_ne hk444 (by decide))) (c_l_J4_init_da8c8 hq445) cy_J4_init_da8c8 (by omega) tm_X14_42 ti_J4_init_da8c8 rfl rfl hl.1 rfl (by simp [g_catQ, h_ki, h_kr, h_kn, h_kl, h_kd]) dX14_text_535) (fun H locs hW => ?_)
                          refine h_aload_n C0.hx C0.hb dX14_text_538 rfl (lv_at hl 0 rfl) ?_
                          obtain ⟨hk446, h⟩ := g_if h
                          refine hf_X14_2 C0 hW hk446 tf_X14_16 dX14_text_539 ?_
                          obtain ⟨hk447, h⟩ := g_if h
                          obtain ⟨q448, hq448, h⟩ := Option.bind_eq_some_iff.mp h
                          refine h_callr hW (h_runV (As := []) (rest := [g_rf G (h_nx y)]) C0 hW (hW.rf (h_ne hk447 (by decide))) (h_recv C0 hW (h_ne hk447 (by decide)) (h_c51 hk447) rfl) (ihn _ _ _ hq448) cy_X14_text (by omega) tm_X14_66 ti_X14_text ts_X14_text rfl hl.1 rfl (by simp [g_catQ, h_ki, h_kr, h_kn, h_kl, h_kd]) dX14_text_542) (fun H locs hW => ?_)
                          obtain ⟨hk449, h⟩ := g_if h
                          obtain ⟨q450, hq450, h⟩ := Option.bind_eq_some_iff.mp h
                          refine h_callr hW (h_runV (As := [.ref (g_sa G (q448.1))]) (rest := []) C0 hW (hW.rf (h_ne hk449 (by decide))) (h_recv C0 hW (h_ne hk449 (by decide)) (h_c54 hk449) rfl) (c_l_J4_append_15ec4 hq450) cy_J4_append_15ec4 (by omega) tm_X14_45 ti_J4_append_15ec4 ts_J4_append_15ec4 rfl hl.1 rfl (Nat.le_of_ble_eq_true rfl) dX14_text_545) (fun H locs hW => ?_)
                          refine h_SGN C0 hW tfN_X14_95 dX14_text_548 ?_
                          refine h_aload_n C0.hx C0.hb dX14_text_551 rfl (lv_at hl 0 rfl) ?_
                          obtain ⟨hk451, h⟩ := g_if h
                          refine hf_X14_0 C0 hW hk451 tf_X14_7 dX14_text_552 ?_
                          refine lv_bipush (v := (8 : Int32)) C0.hx C0.hb dX14_text_555 (by decide) ?_
                          refine lv_isub C0.hx C0.hb dX14_text_557 ?_
                          obtain ⟨hn452, h⟩ := g_if h
                          refine h_SGat C0 hW hn452 dX14_text_558 ?_
                          obtain ⟨hk453, h⟩ := g_if h
                          obtain ⟨q454, hq454, h⟩ := Option.bind_eq_some_iff.mp h
                          refine h_callr hW (h_runV (As := [.ref (g_sa G (84 + ((h_I q450.2 t 0) - (8 : Int32)).toNatClampNeg))]) (rest := []) C0 hW (hW.rf (h_ne hk453 (by decide))) (h_recv C0 hW (h_ne hk453 (by decide)) (h_c54 hk453) rfl) (c_l_J4_append_15ec4 hq454) cy_J4_append_15ec4 (by omega) tm_X14_45 ti_J4_append_15ec4 ts_J4_append_15ec4 rfl hl.1 rfl (Nat.le_of_ble_eq_true rfl) dX14_text_559) (fun H locs hW => ?_)
                          refine h_aload_n C0.hx C0.hb dX14_text_562 rfl (lv_at hl 0 rfl) ?_
                          obtain ⟨hk455, h⟩ := g_if h
                          refine hf_X14_3 C0 hW hk455 tf_X14_20 dX14_text_563 ?_
                          obtain ⟨hk456, h⟩ := g_if h
                          obtain ⟨q457, hq457, h⟩ := Option.bind_eq_some_iff.mp h
                          refine h_callr hW (h_runV (As := []) (rest := [g_rf G (q454.1)]) C0 hW (hW.rf (h_ne hk456 (by decide))) (h_recv C0 hW (h_ne hk456 (by decide)) (h_c51 hk456) rfl) (ihn _ _ _ hq457) cy_X14_text (by omega) tm_X14_66 ti_X14_text ts_X14_text rfl hl.1 rfl (by simp [g_catQ, h_ki, h_kr, h_kn, h_kl, h_kd]) dX14_text_566) (fun H locs hW => ?_)
                          obtain ⟨hk458, h⟩ := g_if h
                          obtain ⟨q459, hq459, h⟩ := Option.bind_eq_some_iff.mp h
                          refine h_callr hW (h_runV (As := [.ref (g_sa G (q457.1))]) (rest := []) C0 hW (hW.rf (h_ne hk458 (by decide))) (h_recv C0 hW (h_ne hk458 (by decide)) (h_c54 hk458) rfl) (c_l_J4_append_15ec4 hq459) cy_J4_append_15ec4 (by omega) tm_X14_45 ti_J4_append_15ec4 ts_J4_append_15ec4 rfl hl.1 rfl (Nat.le_of_ble_eq_true rfl) dX14_text_569) (fun H locs hW => ?_)
                          obtain ⟨hk460, h⟩ := g_if h
                          obtain ⟨q461, hq461, h⟩ := Option.bind_eq_some_iff.mp h
                          refine h_callr hW (h_runV (As := []) (rest := []) C0 hW (hW.rf (h_ne hk460 (by decide))) (h_recv C0 hW (h_ne hk460 (by decide)) (h_c54 hk460) rfl) (c_l_J4_toString_0e30d hq461) cy_J4_toString_0e30d (by omega) tm_X14_52 ti_J4_toString_0e30d ts_J4_toString_0e30d rfl hl.1 rfl (Nat.le_of_ble_eq_true rfl) dX14_text_572) (fun H locs hW => ?_)
                          obtain rfl := Option.some.inj h
                          exact h_aretC C0 hW rfl rfl dX14_text_575
                        · replace h := (if_neg hc442).symm.trans h
                          obtain ⟨hn462, h⟩ := g_if h
                          refine hno_54 C0 hW hn462 tl_X14_40 dX14_text_474 (fun H hW => ?_)
                          refine lv_dup C0.hx C0.hb dX14_text_477 g_catQ ?_
                          obtain ⟨hk463, h⟩ := g_if h
                          obtain ⟨q464, hq464, h⟩ := Option.bind_eq_some_iff.mp h
                          refine h_callv hW (h_runI (As := []) (rest := [g_rf G (h_nx y)]) C0 hW (hW.rf (h_ne hk463 (by decide))) (c_l_J4_init_da8c8 hq464) cy_J4_init_da8c8 (by omega) tm_X14_42 ti_J4_init_da8c8 rfl rfl hl.1 rfl (by simp [g_catQ, h_ki, h_kr, h_kn, h_kl, h_kd]) dX14_text_478) (fun H locs hW => ?_)
                          refine h_ldc C0 hW (n := 77) (List.mem_of_getElem? (i := 31) rfl) (by decide) dX14_text_481 ?_
                          obtain ⟨hk465, h⟩ := g_if h
                          obtain ⟨q466, hq466, h⟩ := Option.bind_eq_some_iff.mp h
                          refine h_callr hW (h_runV (As := [.ref (g_sa G (77))]) (rest := []) C0 hW (hW.rf (h_ne hk465 (by decide))) (h_recv C0 hW (h_ne hk465 (by decide)) (h_c54 hk465) rfl) (c_l_J4_append_15ec4 hq466) cy_J4_append_15ec4 (by omega) tm_X14_45 ti_J4_append_15ec4 ts_J4_append_15ec4 rfl hl.1 rfl (Nat.le_of_ble_eq_true rfl) dX14_text_483) (fun H locs hW => ?_)
                          refine h_aload_n C0.hx C0.hb dX14_text_486 rfl (lv_at hl 0 rfl) ?_
                          obtain ⟨hk467, h⟩ := g_if h
                          refine hf_X14_2 C0 hW hk467 tf_X14_16 dX14_text_487 ?_
                          obtain ⟨hk468, h⟩ := g_if h
                          obtain ⟨q469, hq469, h⟩ := Option.bind_eq_some_iff.mp h
                          refine h_callr hW (h_runV (As := []) (rest := [g_rf G (q466.1)]) C0 hW (hW.rf (h_ne hk468 (by decide))) (h_recv C0 hW (h_ne hk468 (by decide)) (h_c51 hk468) rfl) (ihn _ _ _ hq469) cy_X14_text (by omega) tm_X14_66 ti_X14_text ts_X14_text rfl hl.1 rfl (by simp [g_catQ, h_ki, h_kr, h_kn, h_kl, h_kd]) dX14_text_490) (fun H locs hW => ?_)
                          obtain ⟨hk470, h⟩ := g_if h
                          obtain ⟨q471, hq471, h⟩ := Option.bind_eq_some_iff.mp h
                          refine h_callr hW (h_runV (As := [.ref (g_sa G (q469.1))]) (rest := []) C0 hW (hW.rf (h_ne hk470 (by decide))) (h_recv C0 hW (h_ne hk470 (by decide)) (h_c54 hk470) rfl) (c_l_J4_append_15ec4 hq471) cy_J4_append_15ec4 (by omega) tm_X14_45 ti_J4_append_15ec4 ts_J4_append_15ec4 rfl hl.1 rfl (Nat.le_of_ble_eq_true rfl) dX14_text_493) (fun H locs hW => ?_)
                          refine h_SGN C0 hW tfN_X14_95 dX14_text_496 ?_
                          refine h_aload_n C0.hx C0.hb dX14_text_499 rfl (lv_at hl 0 rfl) ?_
                          obtain ⟨hk472, h⟩ := g_if h
                          refine hf_X14_0 C0 hW hk472 tf_X14_7 dX14_text_500 ?_
                          refine lv_bipush (v := (8 : Int32)) C0.hx C0.hb dX14_text_503 (by decide) ?_
                          refine lv_isub C0.hx C0.hb dX14_text_505 ?_
                          obtain ⟨hn473, h⟩ := g_if h
                          refine h_SGat C0 hW hn473 dX14_text_506 ?_
                          obtain ⟨hk474, h⟩ := g_if h
                          obtain ⟨q475, hq475, h⟩ := Option.bind_eq_some_iff.mp h
                          refine h_callr hW (h_runV (As := [.ref (g_sa G (84 + ((h_I q471.2 t 0) - (8 : Int32)).toNatClampNeg))]) (rest := []) C0 hW (hW.rf (h_ne hk474 (by decide))) (h_recv C0 hW (h_ne hk474 (by decide)) (h_c54 hk474) rfl) (c_l_J4_append_15ec4 hq475) cy_J4_append_15ec4 (by omega) tm_X14_45 ti_J4_append_15ec4 ts_J4_append_15ec4 rfl hl.1 rfl (Nat.le_of_ble_eq_true rfl) dX14_text_507) (fun H locs hW => ?_)
                          refine h_aload_n C0.hx C0.hb dX14_text_510 rfl (lv_at hl 0 rfl) ?_
                          obtain ⟨hk476, h⟩ := g_if h
                          refine hf_X14_3 C0 hW hk476 tf_X14_20 dX14_text_511 ?_
                          obtain ⟨hk477, h⟩ := g_if h
                          obtain ⟨q478, hq478, h⟩ := Option.bind_eq_some_iff.mp h
                          refine h_callr hW (h_runV (As := []) (rest := [g_rf G (q475.1)]) C0 hW (hW.rf (h_ne hk477 (by decide))) (h_recv C0 hW (h_ne hk477 (by decide)) (h_c51 hk477) rfl) (ihn _ _ _ hq478) cy_X14_text (by omega) tm_X14_66 ti_X14_text ts_X14_text rfl hl.1 rfl (by simp [g_catQ, h_ki, h_kr, h_kn, h_kl, h_kd]) dX14_text_514) (fun H locs hW => ?_)
                          obtain ⟨hk479, h⟩ := g_if h
                          obtain ⟨q480, hq480, h⟩ := Option.bind_eq_some_iff.mp h
                          refine h_callr hW (h_runV (As := [.ref (g_sa G (q478.1))]) (rest := []) C0 hW (hW.rf (h_ne hk479 (by decide))) (h_recv C0 hW (h_ne hk479 (by decide)) (h_c54 hk479) rfl) (c_l_J4_append_15ec4 hq480) cy_J4_append_15ec4 (by omega) tm_X14_45 ti_J4_append_15ec4 ts_J4_append_15ec4 rfl hl.1 rfl (Nat.le_of_ble_eq_true rfl) dX14_text_517) (fun H locs hW => ?_)
                          refine h_ldc C0 hW (n := 67) (List.mem_of_getElem? (i := 21) rfl) (by decide) dX14_text_520 ?_
                          obtain ⟨hk481, h⟩ := g_if h
                          obtain ⟨q482, hq482, h⟩ := Option.bind_eq_some_iff.mp h
                          refine h_callr hW (h_runV (As := [.ref (g_sa G (67))]) (rest := []) C0 hW (hW.rf (h_ne hk481 (by decide))) (h_recv C0 hW (h_ne hk481 (by decide)) (h_c54 hk481) rfl) (c_l_J4_append_15ec4 hq482) cy_J4_append_15ec4 (by omega) tm_X14_45 ti_J4_append_15ec4 ts_J4_append_15ec4 rfl hl.1 rfl (Nat.le_of_ble_eq_true rfl) dX14_text_522) (fun H locs hW => ?_)
                          obtain ⟨hk483, h⟩ := g_if h
                          obtain ⟨q484, hq484, h⟩ := Option.bind_eq_some_iff.mp h
                          refine h_callr hW (h_runV (As := []) (rest := []) C0 hW (hW.rf (h_ne hk483 (by decide))) (h_recv C0 hW (h_ne hk483 (by decide)) (h_c54 hk483) rfl) (c_l_J4_toString_0e30d hq484) cy_J4_toString_0e30d (by omega) tm_X14_52 ti_J4_toString_0e30d ts_J4_toString_0e30d rfl hl.1 rfl (Nat.le_of_ble_eq_true rfl) dX14_text_525) (fun H locs hW => ?_)
                          refine lv_goto (tgt := 575) C0.hx C0.hb dX14_text_528 (by decide) ?_
                          obtain rfl := Option.some.inj h
                          exact h_aretC C0 hW rfl rfl dX14_text_575
                      · replace h := (if_neg hc11).symm.trans h
                        by_cases hc12 : (h_I y t 0) = (10 : Int32)
                        · replace h := (if_pos hc12).symm.trans h
                          refine lv_tableIn (tgt := 465) C0.hx C0.hb dX14_text_4 (by rw [hc12]; decide) (by rw [hc12]; decide) (by rw [hc12]; rfl) (by decide) ?_
                          refine h_aload_n C0.hx C0.hb dX14_text_465 rfl (lv_at hl 0 rfl) ?_
                          refine hf_X14_0 C0 hW hk1 tf_X14_7 dX14_text_466 ?_
                          refine lv_bipush (v := (12 : Int32)) C0.hx C0.hb dX14_text_469 (by decide) ?_
                          refine lv_icmp_ge (tgt := 531) C0.hx C0.hb dX14_text_471 (by decide) (fun hc399 => ?_) (fun hc399 => ?_)
                          · replace h := (if_pos hc399).symm.trans h
                            obtain ⟨hn400, h⟩ := g_if h
                            refine hno_54 C0 hW hn400 tl_X14_40 dX14_text_531 (fun H hW => ?_)
                            refine lv_dup C0.hx C0.hb dX14_text_534 g_catQ ?_
                            obtain ⟨hk401, h⟩ := g_if h
                            obtain ⟨q402, hq402, h⟩ := Option.bind_eq_some_iff.mp h
                            refine h_callv hW (h_runI (As := []) (rest := [g_rf G (h_nx y)]) C0 hW (hW.rf (h_ne hk401 (by decide))) (c_l_J4_init_da8c8 hq402) cy_J4_init_da8c8 (by omega) tm_X14_42 ti_J4_init_da8c8 rfl rfl hl.1 rfl (by simp [g_catQ, h_ki, h_kr, h_kn, h_kl, h_kd]) dX14_text_535) (fun H locs hW => ?_)
                            refine h_aload_n C0.hx C0.hb dX14_text_538 rfl (lv_at hl 0 rfl) ?_
                            obtain ⟨hk403, h⟩ := g_if h
                            refine hf_X14_2 C0 hW hk403 tf_X14_16 dX14_text_539 ?_
                            obtain ⟨hk404, h⟩ := g_if h
                            obtain ⟨q405, hq405, h⟩ := Option.bind_eq_some_iff.mp h
                            refine h_callr hW (h_runV (As := []) (rest := [g_rf G (h_nx y)]) C0 hW (hW.rf (h_ne hk404 (by decide))) (h_recv C0 hW (h_ne hk404 (by decide)) (h_c51 hk404) rfl) (ihn _ _ _ hq405) cy_X14_text (by omega) tm_X14_66 ti_X14_text ts_X14_text rfl hl.1 rfl (by simp [g_catQ, h_ki, h_kr, h_kn, h_kl, h_kd]) dX14_text_542) (fun H locs hW => ?_)
                            obtain ⟨hk406, h⟩ := g_if h
                            obtain ⟨q407, hq407, h⟩ := Option.bind_eq_some_iff.mp h
                            refine h_callr hW (h_runV (As := [.ref (g_sa G (q405.1))]) (rest := []) C0 hW (hW.rf (h_ne hk406 (by decide))) (h_recv C0 hW (h_ne hk406 (by decide)) (h_c54 hk406) rfl) (c_l_J4_append_15ec4 hq407) cy_J4_append_15ec4 (by omega) tm_X14_45 ti_J4_append_15ec4 ts_J4_append_15ec4 rfl hl.1 rfl (Nat.le_of_ble_eq_true rfl) dX14_text_545) (fun H locs hW => ?_)
                            refine h_SGN C0 hW tfN_X14_95 dX14_text_548 ?_
                            refine h_aload_n C0.hx C0.hb dX14_text_551 rfl (lv_at hl 0 rfl) ?_
                            obtain ⟨hk408, h⟩ := g_if h
                            refine hf_X14_0 C0 hW hk408 tf_X14_7 dX14_text_552 ?_
                            refine lv_bipush (v := (8 : Int32)) C0.hx C0.hb dX14_text_555 (by decide) ?_
                            refine lv_isub C0.hx C0.hb dX14_text_557 ?_
                            obtain ⟨hn409, h⟩ := g_if h
                            refine h_SGat C0 hW hn409 dX14_text_558 ?_
                            obtain ⟨hk410, h⟩ := g_if h
                            obtain ⟨q411, hq411, h⟩ := Option.bind_eq_some_iff.mp h
                            refine h_callr hW (h_runV (As := [.ref (g_sa G (84 + ((h_I q407.2 t 0) - (8 : Int32)).toNatClampNeg))]) (rest := []) C0 hW (hW.rf (h_ne hk410 (by decide))) (h_recv C0 hW (h_ne hk410 (by decide)) (h_c54 hk410) rfl) (c_l_J4_append_15ec4 hq411) cy_J4_append_15ec4 (by omega) tm_X14_45 ti_J4_append_15ec4 ts_J4_append_15ec4 rfl hl.1 rfl (Nat.le_of_ble_eq_true rfl) dX14_text_559) (fun H locs hW => ?_)
                            refine h_aload_n C0.hx C0.hb dX14_text_562 rfl (lv_at hl 0 rfl) ?_
                            obtain ⟨hk412, h⟩ := g_if h
                            refine hf_X14_3 C0 hW hk412 tf_X14_20 dX14_text_563 ?_
                            obtain ⟨hk413, h⟩ := g_if h
                            obtain ⟨q414, hq414, h⟩ := Option.bind_eq_some_iff.mp h
                            refine h_callr hW (h_runV (As := []) (rest := [g_rf G (q411.1)]) C0 hW (hW.rf (h_ne hk413 (by decide))) (h_recv C0 hW (h_ne hk413 (by decide)) (h_c51 hk413) rfl) (ihn _ _ _ hq414) cy_X14_text (by omega) tm_X14_66 ti_X14_text ts_X14_text rfl hl.1 rfl (by simp [g_catQ, h_ki, h_kr, h_kn, h_kl, h_kd]) dX14_text_566) (fun H locs hW => ?_)
                            obtain ⟨hk415, h⟩ := g_if h
                            obtain ⟨q416, hq416, h⟩ := Option.bind_eq_some_iff.mp h
                            refine h_callr hW (h_runV (As := [.ref (g_sa G (q414.1))]) (rest := []) C0 hW (hW.rf (h_ne hk415 (by decide))) (h_recv C0 hW (h_ne hk415 (by decide)) (h_c54 hk415) rfl) (c_l_J4_append_15ec4 hq416) cy_J4_append_15ec4 (by omega) tm_X14_45 ti_J4_append_15ec4 ts_J4_append_15ec4 rfl hl.1 rfl (Nat.le_of_ble_eq_true rfl) dX14_text_569) (fun H locs hW => ?_)
                            obtain ⟨hk417, h⟩ := g_if h
                            obtain ⟨q418, hq418, h⟩ := Option.bind_eq_some_iff.mp h
                            refine h_callr hW (h_runV (As := []) (rest := []) C0 hW (hW.rf (h_ne hk417 (by decide))) (h_recv C0 hW (h_ne hk417 (by decide)) (h_c54 hk417) rfl) (c_l_J4_toString_0e30d hq418) cy_J4_toString_0e30d (by omega) tm_X14_52 ti_J4_toString_0e30d ts_J4_toString_0e30d rfl hl.1 rfl (Nat.le_of_ble_eq_true rfl) dX14_text_572) (fun H locs hW => ?_)
                            obtain rfl := Option.some.inj h
                            exact h_aretC C0 hW rfl rfl dX14_text_575
                          · replace h := (if_neg hc399).symm.trans h
                            obtain ⟨hn419, h⟩ := g_if h
                            refine hno_54 C0 hW hn419 tl_X14_40 dX14_text_474 (fun H hW => ?_)
                            refine lv_dup C0.hx C0.hb dX14_text_477 g_catQ ?_
                            obtain ⟨hk420, h⟩ := g_if h
                            obtain ⟨q421, hq421, h⟩ := Option.bind_eq_some_iff.mp h
                            refine h_callv hW (h_runI (As := []) (rest := [g_rf G (h_nx y)]) C0 hW (hW.rf (h_ne hk420 (by decide))) (c_l_J4_init_da8c8 hq421) cy_J4_init_da8c8 (by omega) tm_X14_42 ti_J4_init_da8c8 rfl rfl hl.1 rfl (by simp [g_catQ, h_ki, h_kr, h_kn, h_kl, h_kd]) dX14_text_478) (fun H locs hW => ?_)
                            refine h_ldc C0 hW (n := 77) (List.mem_of_getElem? (i := 31) rfl) (by decide) dX14_text_481 ?_
                            obtain ⟨hk422, h⟩ := g_if h
                            obtain ⟨q423, hq423, h⟩ := Option.bind_eq_some_iff.mp h
                            refine h_callr hW (h_runV (As := [.ref (g_sa G (77))]) (rest := []) C0 hW (hW.rf (h_ne hk422 (by decide))) (h_recv C0 hW (h_ne hk422 (by decide)) (h_c54 hk422) rfl) (c_l_J4_append_15ec4 hq423) cy_J4_append_15ec4 (by omega) tm_X14_45 ti_J4_append_15ec4 ts_J4_append_15ec4 rfl hl.1 rfl (Nat.le_of_ble_eq_true rfl) dX14_text_483) (fun H locs hW => ?_)
                            refine h_aload_n C0.hx C0.hb dX14_text_486 rfl (lv_at hl 0 rfl) ?_
                            obtain ⟨hk424, h⟩ := g_if h
                            refine hf_X14_2 C0 hW hk424 tf_X14_16 dX14_text_487 ?_
                            obtain ⟨hk425, h⟩ := g_if h
                            obtain ⟨q426, hq426, h⟩ := Option.bind_eq_some_iff.mp h
                            refine h_callr hW (h_runV (As := []) (rest := [g_rf G (q423.1)]) C0 hW (hW.rf (h_ne hk425 (by decide))) (h_recv C0 hW (h_ne hk425 (by decide)) (h_c51 hk425) rfl) (ihn _ _ _ hq426) cy_X14_text (by omega) tm_X14_66 ti_X14_text ts_X14_text rfl hl.1 rfl (by simp [g_catQ, h_ki, h_kr, h_kn, h_kl, h_kd]) dX14_text_490) (fun H locs hW => ?_)
                            obtain ⟨hk427, h⟩ := g_if h
                            obtain ⟨q428, hq428, h⟩ := Option.bind_eq_some_iff.mp h
                            refine h_callr hW (h_runV (As := [.ref (g_sa G (q426.1))]) (rest := []) C0 hW (hW.rf (h_ne hk427 (by decide))) (h_recv C0 hW (h_ne hk427 (by decide)) (h_c54 hk427) rfl) (c_l_J4_append_15ec4 hq428) cy_J4_append_15ec4 (by omega) tm_X14_45 ti_J4_append_15ec4 ts_J4_append_15ec4 rfl hl.1 rfl (Nat.le_of_ble_eq_true rfl) dX14_text_493) (fun H locs hW => ?_)
                            refine h_SGN C0 hW tfN_X14_95 dX14_text_496 ?_
                            refine h_aload_n C0.hx C0.hb dX14_text_499 rfl (lv_at hl 0 rfl) ?_
                            obtain ⟨hk429, h⟩ := g_if h
                            refine hf_X14_0 C0 hW hk429 tf_X14_7 dX14_text_500 ?_
                            refine lv_bipush (v := (8 : Int32)) C0.hx C0.hb dX14_text_503 (by decide) ?_
                            refine lv_isub C0.hx C0.hb dX14_text_505 ?_
                            obtain ⟨hn430, h⟩ := g_if h
                            refine h_SGat C0 hW hn430 dX14_text_506 ?_
                            obtain ⟨hk431, h⟩ := g_if h
                            obtain ⟨q432, hq432, h⟩ := Option.bind_eq_some_iff.mp h
                            refine h_callr hW (h_runV (As := [.ref (g_sa G (84 + ((h_I q428.2 t 0) - (8 : Int32)).toNatClampNeg))]) (rest := []) C0 hW (hW.rf (h_ne hk431 (by decide))) (h_recv C0 hW (h_ne hk431 (by decide)) (h_c54 hk431) rfl) (c_l_J4_append_15ec4 hq432) cy_J4_append_15ec4 (by omega) tm_X14_45 ti_J4_append_15ec4 ts_J4_append_15ec4 rfl hl.1 rfl (Nat.le_of_ble_eq_true rfl) dX14_text_507) (fun H locs hW => ?_)
                            refine h_aload_n C0.hx C0.hb dX14_text_510 rfl (lv_at hl 0 rfl) ?_
                            obtain ⟨hk433, h⟩ := g_if h
                            refine hf_X14_3 C0 hW hk433 tf_X14_20 dX14_text_511 ?_
                            obtain ⟨hk434, h⟩ := g_if h
                            obtain ⟨q435, hq435, h⟩ := Option.bind_eq_some_iff.mp h
                            refine h_callr hW (h_runV (As := []) (rest := [g_rf G (q432.1)]) C0 hW (hW.rf (h_ne hk434 (by decide))) (h_recv C0 hW (h_ne hk434 (by decide)) (h_c51 hk434) rfl) (ihn _ _ _ hq435) cy_X14_text (by omega) tm_X14_66 ti_X14_text ts_X14_text rfl hl.1 rfl (by simp [g_catQ, h_ki, h_kr, h_kn, h_kl, h_kd]) dX14_text_514) (fun H locs hW => ?_)
                            obtain ⟨hk436, h⟩ := g_if h
                            obtain ⟨q437, hq437, h⟩ := Option.bind_eq_some_iff.mp h
                            refine h_callr hW (h_runV (As := [.ref (g_sa G (q435.1))]) (rest := []) C0 hW (hW.rf (h_ne hk436 (by decide))) (h_recv C0 hW (h_ne hk436 (by decide)) (h_c54 hk436) rfl) (c_l_J4_append_15ec4 hq437) cy_J4_append_15ec4 (by omega) tm_X14_45 ti_J4_append_15ec4 ts_J4_append_15ec4 rfl hl.1 rfl (Nat.le_of_ble_eq_true rfl) dX14_text_517) (fun H locs hW => ?_)
                            refine h_ldc C0 hW (n := 67) (List.mem_of_getElem? (i := 21) rfl) (by decide) dX14_text_520 ?_
                            obtain ⟨hk438, h⟩ := g_if h
                            obtain ⟨q439, hq439, h⟩ := Option.bind_eq_some_iff.mp h
                            refine h_callr hW (h_runV (As := [.ref (g_sa G (67))]) (rest := []) C0 hW (hW.rf (h_ne hk438 (by decide))) (h_recv C0 hW (h_ne hk438 (by decide)) (h_c54 hk438) rfl) (c_l_J4_append_15ec4 hq439) cy_J4_append_15ec4 (by omega) tm_X14_45 ti_J4_append_15ec4 ts_J4_append_15ec4 rfl hl.1 rfl (Nat.le_of_ble_eq_true rfl) dX14_text_522) (fun H locs hW => ?_)
                            obtain ⟨hk440, h⟩ := g_if h
                            obtain ⟨q441, hq441, h⟩ := Option.bind_eq_some_iff.mp h
                            refine h_callr hW (h_runV (As := []) (rest := []) C0 hW (hW.rf (h_ne hk440 (by decide))) (h_recv C0 hW (h_ne hk440 (by decide)) (h_c54 hk440) rfl) (c_l_J4_toString_0e30d hq441) cy_J4_toString_0e30d (by omega) tm_X14_52 ti_J4_toString_0e30d ts_J4_toString_0e30d rfl hl.1 rfl (Nat.le_of_ble_eq_true rfl) dX14_text_525) (fun H locs hW => ?_)
                            refine lv_goto (tgt := 575) C0.hx C0.hb dX14_text_528 (by decide) ?_
                            obtain rfl := Option.some.inj h
                            exact h_aretC C0 hW rfl rfl dX14_text_575
                        · replace h := (if_neg hc12).symm.trans h
                          by_cases hc13 : (h_I y t 0) = (11 : Int32)
                          · replace h := (if_pos hc13).symm.trans h
                            refine lv_tableIn (tgt := 465) C0.hx C0.hb dX14_text_4 (by rw [hc13]; decide) (by rw [hc13]; decide) (by rw [hc13]; rfl) (by decide) ?_
                            refine h_aload_n C0.hx C0.hb dX14_text_465 rfl (lv_at hl 0 rfl) ?_
                            refine hf_X14_0 C0 hW hk1 tf_X14_7 dX14_text_466 ?_
                            refine lv_bipush (v := (12 : Int32)) C0.hx C0.hb dX14_text_469 (by decide) ?_
                            refine lv_icmp_ge (tgt := 531) C0.hx C0.hb dX14_text_471 (by decide) (fun hc356 => ?_) (fun hc356 => ?_)
                            · replace h := (if_pos hc356).symm.trans h
                              obtain ⟨hn357, h⟩ := g_if h
                              refine hno_54 C0 hW hn357 tl_X14_40 dX14_text_531 (fun H hW => ?_)
                              refine lv_dup C0.hx C0.hb dX14_text_534 g_catQ ?_
                              obtain ⟨hk358, h⟩ := g_if h
                              obtain ⟨q359, hq359, h⟩ := Option.bind_eq_some_iff.mp h
                              refine h_callv hW (h_runI (As := []) (rest := [g_rf G (h_nx y)]) C0 hW (hW.rf (h_ne hk358 (by decide))) (c_l_J4_init_da8c8 hq359) cy_J4_init_da8c8 (by omega) tm_X14_42 ti_J4_init_da8c8 rfl rfl hl.1 rfl (by simp [g_catQ, h_ki, h_kr, h_kn, h_kl, h_kd]) dX14_text_535) (fun H locs hW => ?_)
                              refine h_aload_n C0.hx C0.hb dX14_text_538 rfl (lv_at hl 0 rfl) ?_
                              obtain ⟨hk360, h⟩ := g_if h
                              refine hf_X14_2 C0 hW hk360 tf_X14_16 dX14_text_539 ?_
                              obtain ⟨hk361, h⟩ := g_if h
                              obtain ⟨q362, hq362, h⟩ := Option.bind_eq_some_iff.mp h
                              refine h_callr hW (h_runV (As := []) (rest := [g_rf G (h_nx y)]) C0 hW (hW.rf (h_ne hk361 (by decide))) (h_recv C0 hW (h_ne hk361 (by decide)) (h_c51 hk361) rfl) (ihn _ _ _ hq362) cy_X14_text (by omega) tm_X14_66 ti_X14_text ts_X14_text rfl hl.1 rfl (by simp [g_catQ, h_ki, h_kr, h_kn, h_kl, h_kd]) dX14_text_542) (fun H locs hW => ?_)
                              obtain ⟨hk363, h⟩ := g_if h
                              obtain ⟨q364, hq364, h⟩ := Option.bind_eq_some_iff.mp h
                              refine h_callr hW (h_runV (As := [.ref (g_sa G (q362.1))]) (rest := []) C0 hW (hW.rf (h_ne hk363 (by decide))) (h_recv C0 hW (h_ne hk363 (by decide)) (h_c54 hk363) rfl) (c_l_J4_append_15ec4 hq364) cy_J4_append_15ec4 (by omega) tm_X14_45 ti_J4_append_15ec4 ts_J4_append_15ec4 rfl hl.1 rfl (Nat.le_of_ble_eq_true rfl) dX14_text_545) (fun H locs hW => ?_)
                              refine h_SGN C0 hW tfN_X14_95 dX14_text_548 ?_
                              refine h_aload_n C0.hx C0.hb dX14_text_551 rfl (lv_at hl 0 rfl) ?_
                              obtain ⟨hk365, h⟩ := g_if h
                              refine hf_X14_0 C0 hW hk365 tf_X14_7 dX14_text_552 ?_
                              refine lv_bipush (v := (8 : Int32)) C0.hx C0.hb dX14_text_555 (by decide) ?_
                              refine lv_isub C0.hx C0.hb dX14_text_557 ?_
                              obtain ⟨hn366, h⟩ := g_if h
                              refine h_SGat C0 hW hn366 dX14_text_558 ?_
                              obtain ⟨hk367, h⟩ := g_if h
                              obtain ⟨q368, hq368, h⟩ := Option.bind_eq_some_iff.mp h
                              refine h_callr hW (h_runV (As := [.ref (g_sa G (84 + ((h_I q364.2 t 0) - (8 : Int32)).toNatClampNeg))]) (rest := []) C0 hW (hW.rf (h_ne hk367 (by decide))) (h_recv C0 hW (h_ne hk367 (by decide)) (h_c54 hk367) rfl) (c_l_J4_append_15ec4 hq368) cy_J4_append_15ec4 (by omega) tm_X14_45 ti_J4_append_15ec4 ts_J4_append_15ec4 rfl hl.1 rfl (Nat.le_of_ble_eq_true rfl) dX14_text_559) (fun H locs hW => ?_)
                              refine h_aload_n C0.hx C0.hb dX14_text_562 rfl (lv_at hl 0 rfl) ?_
                              obtain ⟨hk369, h⟩ := g_if h
                              refine hf_X14_3 C0 hW hk369 tf_X14_20 dX14_text_563 ?_
                              obtain ⟨hk370, h⟩ := g_if h
                              obtain ⟨q371, hq371, h⟩ := Option.bind_eq_some_iff.mp h
                              refine h_callr hW (h_runV (As := []) (rest := [g_rf G (q368.1)]) C0 hW (hW.rf (h_ne hk370 (by decide))) (h_recv C0 hW (h_ne hk370 (by decide)) (h_c51 hk370) rfl) (ihn _ _ _ hq371) cy_X14_text (by omega) tm_X14_66 ti_X14_text ts_X14_text rfl hl.1 rfl (by simp [g_catQ, h_ki, h_kr, h_kn, h_kl, h_kd]) dX14_text_566) (fun H locs hW => ?_)
                              obtain ⟨hk372, h⟩ := g_if h
                              obtain ⟨q373, hq373, h⟩ := Option.bind_eq_some_iff.mp h
                              refine h_callr hW (h_runV (As := [.ref (g_sa G (q371.1))]) (rest := []) C0 hW (hW.rf (h_ne hk372 (by decide))) (h_recv C0 hW (h_ne hk372 (by decide)) (h_c54 hk372) rfl) (c_l_J4_append_15ec4 hq373) cy_J4_append_15ec4 (by omega) tm_X14_45 ti_J4_append_15ec4 ts_J4_append_15ec4 rfl hl.1 rfl (Nat.le_of_ble_eq_true rfl) dX14_text_569) (fun H locs hW => ?_)
                              obtain ⟨hk374, h⟩ := g_if h
                              obtain ⟨q375, hq375, h⟩ := Option.bind_eq_some_iff.mp h
                              refine h_callr hW (h_runV (As := []) (rest := []) C0 hW (hW.rf (h_ne hk374 (by decide))) (h_recv C0 hW (h_ne hk374 (by decide)) (h_c54 hk374) rfl) (c_l_J4_toString_0e30d hq375) cy_J4_toString_0e30d (by omega) tm_X14_52 ti_J4_toString_0e30d ts_J4_toString_0e30d rfl hl.1 rfl (Nat.le_of_ble_eq_true rfl) dX14_text_572) (fun H locs hW => ?_)
                              obtain rfl := Option.some.inj h
                              exact h_aretC C0 hW rfl rfl dX14_text_575
                            · replace h := (if_neg hc356).symm.trans h
                              obtain ⟨hn376, h⟩ := g_if h
                              refine hno_54 C0 hW hn376 tl_X14_40 dX14_text_474 (fun H hW => ?_)
                              refine lv_dup C0.hx C0.hb dX14_text_477 g_catQ ?_
                              obtain ⟨hk377, h⟩ := g_if h
                              obtain ⟨q378, hq378, h⟩ := Option.bind_eq_some_iff.mp h
                              refine h_callv hW (h_runI (As := []) (rest := [g_rf G (h_nx y)]) C0 hW (hW.rf (h_ne hk377 (by decide))) (c_l_J4_init_da8c8 hq378) cy_J4_init_da8c8 (by omega) tm_X14_42 ti_J4_init_da8c8 rfl rfl hl.1 rfl (by simp [g_catQ, h_ki, h_kr, h_kn, h_kl, h_kd]) dX14_text_478) (fun H locs hW => ?_)
                              refine h_ldc C0 hW (n := 77) (List.mem_of_getElem? (i := 31) rfl) (by decide) dX14_text_481 ?_
                              obtain ⟨hk379, h⟩ := g_if h
                              obtain ⟨q380, hq380, h⟩ := Option.bind_eq_some_iff.mp h
                              refine h_callr hW (h_runV (As := [.ref (g_sa G (77))]) (rest := []) C0 hW (hW.rf (h_ne hk379 (by decide))) (h_recv C0 hW (h_ne hk379 (by decide)) (h_c54 hk379) rfl) (c_l_J4_append_15ec4 hq380) cy_J4_append_15ec4 (by omega) tm_X14_45 ti_J4_append_15ec4 ts_J4_append_15ec4 rfl hl.1 rfl (Nat.le_of_ble_eq_true rfl) dX14_text_483) (fun H locs hW => ?_)
                              refine h_aload_n C0.hx C0.hb dX14_text_486 rfl (lv_at hl 0 rfl) ?_
                              obtain ⟨hk381, h⟩ := g_if h
                              refine hf_X14_2 C0 hW hk381 tf_X14_16 dX14_text_487 ?_
                              obtain ⟨hk382, h⟩ := g_if h
                              obtain ⟨q383, hq383, h⟩ := Option.bind_eq_some_iff.mp h
                              refine h_callr hW (h_runV (As := []) (rest := [g_rf G (q380.1)]) C0 hW (hW.rf (h_ne hk382 (by decide))) (h_recv C0 hW (h_ne hk382 (by decide)) (h_c51 hk382) rfl) (ihn _ _ _ hq383) cy_X14_text (by omega) tm_X14_66 ti_X14_text ts_X14_text rfl hl.1 rfl (by simp [g_catQ, h_ki, h_kr, h_kn, h_kl, h_kd]) dX14_text_490) (fun H locs hW => ?_)
                              obtain ⟨hk384, h⟩ := g_if h
                              obtain ⟨q385, hq385, h⟩ := Option.bind_eq_some_iff.mp h
                              refine h_callr hW (h_runV (As := [.ref (g_sa G (q383.1))]) (rest := []) C0 hW (hW.rf (h_ne hk384 (by decide))) (h_recv C0 hW (h_ne hk384 (by decide)) (h_c54 hk384) rfl) (c_l_J4_append_15ec4 hq385) cy_J4_append_15ec4 (by omega) tm_X14_45 ti_J4_append_15ec4 ts_J4_append_15ec4 rfl hl.1 rfl (Nat.le_of_ble_eq_true rfl) dX14_text_493) (fun H locs hW => ?_)
                              refine h_SGN C0 hW tfN_X14_95 dX14_text_496 ?_
                              refine h_aload_n C0.hx C0.hb dX14_text_499 rfl (lv_at hl 0 rfl) ?_
                              obtain ⟨hk386, h⟩ := g_if h
                              refine hf_X14_0 C0 hW hk386 tf_X14_7 dX14_text_500 ?_
                              refine lv_bipush (v := (8 : Int32)) C0.hx C0.hb dX14_text_503 (by decide) ?_
                              refine lv_isub C0.hx C0.hb dX14_text_505 ?_
                              obtain ⟨hn387, h⟩ := g_if h
                              refine h_SGat C0 hW hn387 dX14_text_506 ?_
                              obtain ⟨hk388, h⟩ := g_if h
                              obtain ⟨q389, hq389, h⟩ := Option.bind_eq_some_iff.mp h
                              refine h_callr hW (h_runV (As := [.ref (g_sa G (84 + ((h_I q385.2 t 0) - (8 : Int32)).toNatClampNeg))]) (rest := []) C0 hW (hW.rf (h_ne hk388 (by decide))) (h_recv C0 hW (h_ne hk388 (by decide)) (h_c54 hk388) rfl) (c_l_J4_append_15ec4 hq389) cy_J4_append_15ec4 (by omega) tm_X14_45 ti_J4_append_15ec4 ts_J4_append_15ec4 rfl hl.1 rfl (Nat.le_of_ble_eq_true rfl) dX14_text_507) (fun H locs hW => ?_)
                              refine h_aload_n C0.hx C0.hb dX14_text_510 rfl (lv_at hl 0 rfl) ?_
                              obtain ⟨hk390, h⟩ := g_if h
                              refine hf_X14_3 C0 hW hk390 tf_X14_20 dX14_text_511 ?_
                              obtain ⟨hk391, h⟩ := g_if h
                              obtain ⟨q392, hq392, h⟩ := Option.bind_eq_some_iff.mp h
                              refine h_callr hW (h_runV (As := []) (rest := [g_rf G (q389.1)]) C0 hW (hW.rf (h_ne hk391 (by decide))) (h_recv C0 hW (h_ne hk391 (by decide)) (h_c51 hk391) rfl) (ihn _ _ _ hq392) cy_X14_text (by omega) tm_X14_66 ti_X14_text ts_X14_text rfl hl.1 rfl (by simp [g_catQ, h_ki, h_kr, h_kn, h_kl, h_kd]) dX14_text_514) (fun H locs hW => ?_)
                              obtain ⟨hk393, h⟩ := g_if h
                              obtain ⟨q394, hq394, h⟩ := Option.bind_eq_some_iff.mp h
                              refine h_callr hW (h_runV (As := [.ref (g_sa G (q392.1))]) (rest := []) C0 hW (hW.rf (h_ne hk393 (by decide))) (h_recv C0 hW (h_ne hk393 (by decide)) (h_c54 hk393) rfl) (c_l_J4_append_15ec4 hq394) cy_J4_append_15ec4 (by omega) tm_X14_45 ti_J4_append_15ec4 ts_J4_append_15ec4 rfl hl.1 rfl (Nat.le_of_ble_eq_true rfl) dX14_text_517) (fun H locs hW => ?_)
                              refine h_ldc C0 hW (n := 67) (List.mem_of_getElem? (i := 21) rfl) (by decide) dX14_text_520 ?_
                              obtain ⟨hk395, h⟩ := g_if h
                              obtain ⟨q396, hq396, h⟩ := Option.bind_eq_some_iff.mp h
                              refine h_callr hW (h_runV (As := [.ref (g_sa G (67))]) (rest := []) C0 hW (hW.rf (h_ne hk395 (by decide))) (h_recv C0 hW (h_ne hk395 (by decide)) (h_c54 hk395) rfl) (c_l_J4_append_15ec4 hq396) cy_J4_append_15ec4 (by omega) tm_X14_45 ti_J4_append_15ec4 ts_J4_append_15ec4 rfl hl.1 rfl (Nat.le_of_ble_eq_true rfl) dX14_text_522) (fun H locs hW => ?_)
                              obtain ⟨hk397, h⟩ := g_if h
                              obtain ⟨q398, hq398, h⟩ := Option.bind_eq_some_iff.mp h
                              refine h_callr hW (h_runV (As := []) (rest := []) C0 hW (hW.rf (h_ne hk397 (by decide))) (h_recv C0 hW (h_ne hk397 (by decide)) (h_c54 hk397) rfl) (c_l_J4_toString_0e30d hq398) cy_J4_toString_0e30d (by omega) tm_X14_52 ti_J4_toString_0e30d ts_J4_toString_0e30d rfl hl.1 rfl (Nat.le_of_ble_eq_true rfl) dX14_text_525) (fun H locs hW => ?_)
                              refine lv_goto (tgt := 575) C0.hx C0.hb dX14_text_528 (by decide) ?_
                              obtain rfl := Option.some.inj h
                              exact h_aretC C0 hW rfl rfl dX14_text_575
                          · replace h := (if_neg hc13).symm.trans h
                            by_cases hc14 : (h_I y t 0) = (12 : Int32)
                            · replace h := (if_pos hc14).symm.trans h
                              refine lv_tableIn (tgt := 465) C0.hx C0.hb dX14_text_4 (by rw [hc14]; decide) (by rw [hc14]; decide) (by rw [hc14]; rfl) (by decide) ?_
                              refine h_aload_n C0.hx C0.hb dX14_text_465 rfl (lv_at hl 0 rfl) ?_
                              refine hf_X14_0 C0 hW hk1 tf_X14_7 dX14_text_466 ?_
                              refine lv_bipush (v := (12 : Int32)) C0.hx C0.hb dX14_text_469 (by decide) ?_
                              refine lv_icmp_ge (tgt := 531) C0.hx C0.hb dX14_text_471 (by decide) (fun hc313 => ?_) (fun hc313 => ?_)
                              · replace h := (if_pos hc313).symm.trans h
                                obtain ⟨hn314, h⟩ := g_if h
                                refine hno_54 C0 hW hn314 tl_X14_40 dX14_text_531 (fun H hW => ?_)
                                refine lv_dup C0.hx C0.hb dX14_text_534 g_catQ ?_
                                obtain ⟨hk315, h⟩ := g_if h
                                obtain ⟨q316, hq316, h⟩ := Option.bind_eq_some_iff.mp h
                                refine h_callv hW (h_runI (As := []) (rest := [g_rf G (h_nx y)]) C0 hW (hW.rf (h_ne hk315 (by decide))) (c_l_J4_init_da8c8 hq316) cy_J4_init_da8c8 (by omega) tm_X14_42 ti_J4_init_da8c8 rfl rfl hl.1 rfl (by simp [g_catQ, h_ki, h_kr, h_kn, h_kl, h_kd]) dX14_text_535) (fun H locs hW => ?_)
                                refine h_aload_n C0.hx C0.hb dX14_text_538 rfl (lv_at hl 0 rfl) ?_
                                obtain ⟨hk317, h⟩ := g_if h
                                refine hf_X14_2 C0 hW hk317 tf_X14_16 dX14_text_539 ?_
                                obtain ⟨hk318, h⟩ := g_if h
                                obtain ⟨q319, hq319, h⟩ := Option.bind_eq_some_iff.mp h
                                refine h_callr hW (h_runV (As := []) (rest := [g_rf G (h_nx y)]) C0 hW (hW.rf (h_ne hk318 (by decide))) (h_recv C0 hW (h_ne hk318 (by decide)) (h_c51 hk318) rfl) (ihn _ _ _ hq319) cy_X14_text (by omega) tm_X14_66 ti_X14_text ts_X14_text rfl hl.1 rfl (by simp [g_catQ, h_ki, h_kr, h_kn, h_kl, h_kd]) dX14_text_542) (fun H locs hW => ?_)
                                obtain ⟨hk320, h⟩ := g_if h
                                obtain ⟨q321, hq321, h⟩ := Option.bind_eq_some_iff.mp h
                                refine h_callr hW (h_runV (As := [.ref (g_sa G (q319.1))]) (rest := []) C0 hW (hW.rf (h_ne hk320 (by decide))) (h_recv C0 hW (h_ne hk320 (by decide)) (h_c54 hk320) rfl) (c_l_J4_append_15ec4 hq321) cy_J4_append_15ec4 (by omega) tm_X14_45 ti_J4_append_15ec4 ts_J4_append_15ec4 rfl hl.1 rfl (Nat.le_of_ble_eq_true rfl) dX14_text_545) (fun H locs hW => ?_)
                                refine h_SGN C0 hW tfN_X14_95 dX14_text_548 ?_
                                refine h_aload_n C0.hx C0.hb dX14_text_551 rfl (lv_at hl 0 rfl) ?_
                                obtain ⟨hk322, h⟩ := g_if h
                                refine hf_X14_0 C0 hW hk322 tf_X14_7 dX14_text_552 ?_
                                refine lv_bipush (v := (8 : Int32)) C0.hx C0.hb dX14_text_555 (by decide) ?_
                                refine lv_isub C0.hx C0.hb dX14_text_557 ?_
                                obtain ⟨hn323, h⟩ := g_if h
                                refine h_SGat C0 hW hn323 dX14_text_558 ?_
                                obtain ⟨hk324, h⟩ := g_if h
                                obtain ⟨q325, hq325, h⟩ := Option.bind_eq_some_iff.mp h
                                refine h_callr hW (h_runV (As := [.ref (g_sa G (84 + ((h_I q321.2 t 0) - (8 : Int32)).toNatClampNeg))]) (rest := []) C0 hW (hW.rf (h_ne hk324 (by decide))) (h_recv C0 hW (h_ne hk324 (by decide)) (h_c54 hk324) rfl) (c_l_J4_append_15ec4 hq325) cy_J4_append_15ec4 (by omega) tm_X14_45 ti_J4_append_15ec4 ts_J4_append_15ec4 rfl hl.1 rfl (Nat.le_of_ble_eq_true rfl) dX14_text_559) (fun H locs hW => ?_)
                                refine h_aload_n C0.hx C0.hb dX14_text_562 rfl (lv_at hl 0 rfl) ?_
                                obtain ⟨hk326, h⟩ := g_if h
                                refine hf_X14_3 C0 hW hk326 tf_X14_20 dX14_text_563 ?_
                                obtain ⟨hk327, h⟩ := g_if h
                                obtain ⟨q328, hq328, h⟩ := Option.bind_eq_some_iff.mp h
                                refine h_callr hW (h_runV (As := []) (rest := [g_rf G (q325.1)]) C0 hW (hW.rf (h_ne hk327 (by decide))) (h_recv C0 hW (h_ne hk327 (by decide)) (h_c51 hk327) rfl) (ihn _ _ _ hq328) cy_X14_text (by omega) tm_X14_66 ti_X14_text ts_X14_text rfl hl.1 rfl (by simp [g_catQ, h_ki, h_kr, h_kn, h_kl, h_kd]) dX14_text_566) (fun H locs hW => ?_)
                                obtain ⟨hk329, h⟩ := g_if h
                                obtain ⟨q330, hq330, h⟩ := Option.bind_eq_some_iff.mp h
                                refine h_callr hW (h_runV (As := [.ref (g_sa G (q328.1))]) (rest := []) C0 hW (hW.rf (h_ne hk329 (by decide))) (h_recv C0 hW (h_ne hk329 (by decide)) (h_c54 hk329) rfl) (c_l_J4_append_15ec4 hq330) cy_J4_append_15ec4 (by omega) tm_X14_45 ti_J4_append_15ec4 ts_J4_append_15ec4 rfl hl.1 rfl (Nat.le_of_ble_eq_true rfl) dX14_text_569) (fun H locs hW => ?_)
                                obtain ⟨hk331, h⟩ := g_if h
                                obtain ⟨q332, hq332, h⟩ := Option.bind_eq_some_iff.mp h
                                refine h_callr hW (h_runV (As := []) (rest := []) C0 hW (hW.rf (h_ne hk331 (by decide))) (h_recv C0 hW (h_ne hk331 (by decide)) (h_c54 hk331) rfl) (c_l_J4_toString_0e30d hq332) cy_J4_toString_0e30d (by omega) tm_X14_52 ti_J4_toString_0e30d ts_J4_toString_0e30d rfl hl.1 rfl (Nat.le_of_ble_eq_true rfl) dX14_text_572) (fun H locs hW => ?_)
                                obtain rfl := Option.some.inj h
                                exact h_aretC C0 hW rfl rfl dX14_text_575
                              · replace h := (if_neg hc313).symm.trans h
                                obtain ⟨hn333, h⟩ := g_if h
                                refine hno_54 C0 hW hn333 tl_X14_40 dX14_text_474 (fun H hW => ?_)
                                refine lv_dup C0.hx C0.hb dX14_text_477 g_catQ ?_
                                obtain ⟨hk334, h⟩ := g_if h
                                obtain ⟨q335, hq335, h⟩ := Option.bind_eq_some_iff.mp h
                                refine h_callv hW (h_runI (As := []) (rest := [g_rf G (h_nx y)]) C0 hW (hW.rf (h_ne hk334 (by decide))) (c_l_J4_init_da8c8 hq335) cy_J4_init_da8c8 (by omega) tm_X14_42 ti_J4_init_da8c8 rfl rfl hl.1 rfl (by simp [g_catQ, h_ki, h_kr, h_kn, h_kl, h_kd]) dX14_text_478) (fun H locs hW => ?_)
                                refine h_ldc C0 hW (n := 77) (List.mem_of_getElem? (i := 31) rfl) (by decide) dX14_text_481 ?_
                                obtain ⟨hk336, h⟩ := g_if h
                                obtain ⟨q337, hq337, h⟩ := Option.bind_eq_some_iff.mp h
                                refine h_callr hW (h_runV (As := [.ref (g_sa G (77))]) (rest := []) C0 hW (hW.rf (h_ne hk336 (by decide))) (h_recv C0 hW (h_ne hk336 (by decide)) (h_c54 hk336) rfl) (c_l_J4_append_15ec4 hq337) cy_J4_append_15ec4 (by omega) tm_X14_45 ti_J4_append_15ec4 ts_J4_append_15ec4 rfl hl.1 rfl (Nat.le_of_ble_eq_true rfl) dX14_text_483) (fun H locs hW => ?_)
                                refine h_aload_n C0.hx C0.hb dX14_text_486 rfl (lv_at hl 0 rfl) ?_
                                obtain ⟨hk338, h⟩ := g_if h
                                refine hf_X14_2 C0 hW hk338 tf_X14_16 dX14_text_487 ?_
                                obtain ⟨hk339, h⟩ := g_if h
                                obtain ⟨q340, hq340, h⟩ := Option.bind_eq_some_iff.mp h
                                refine h_callr hW (h_runV (As := []) (rest := [g_rf G (q337.1)]) C0 hW (hW.rf (h_ne hk339 (by decide))) (h_recv C0 hW (h_ne hk339 (by decide)) (h_c51 hk339) rfl) (ihn _ _ _ hq340) cy_X14_text (by omega) tm_X14_66 ti_X14_text ts_X14_text rfl hl.1 rfl (by simp [g_catQ, h_ki, h_kr, h_kn, h_kl, h_kd]) dX14_text_490) (fun H locs hW => ?_)
                                obtain ⟨hk341, h⟩ := g_if h
                                obtain ⟨q342, hq342, h⟩ := Option.bind_eq_some_iff.mp h
                                refine h_callr hW (h_runV (As := [.ref (g_sa G (q340.1))]) (rest := []) C0 hW (hW.rf (h_ne hk341 (by decide))) (h_recv C0 hW (h_ne hk341 (by decide)) (h_c54 hk341) rfl) (c_l_J4_append_15ec4 hq342) cy_J4_append_15ec4 (by omega) tm_X14_45 ti_J4_append_15ec4 ts_J4_append_15ec4 rfl hl.1 rfl (Nat.le_of_ble_eq_true rfl) dX14_text_493) (fun H locs hW => ?_)
                                refine h_SGN C0 hW tfN_X14_95 dX14_text_496 ?_
                                refine h_aload_n C0.hx C0.hb dX14_text_499 rfl (lv_at hl 0 rfl) ?_
                                obtain ⟨hk343, h⟩ := g_if h
                                refine hf_X14_0 C0 hW hk343 tf_X14_7 dX14_text_500 ?_
                                refine lv_bipush (v := (8 : Int32)) C0.hx C0.hb dX14_text_503 (by decide) ?_
                                refine lv_isub C0.hx C0.hb dX14_text_505 ?_
                                obtain ⟨hn344, h⟩ := g_if h
                                refine h_SGat C0 hW hn344 dX14_text_506 ?_
                                obtain ⟨hk345, h⟩ := g_if h
                                obtain ⟨q346, hq346, h⟩ := Option.bind_eq_some_iff.mp h
                                refine h_callr hW (h_runV (As := [.ref (g_sa G (84 + ((h_I q342.2 t 0) - (8 : Int32)).toNatClampNeg))]) (rest := []) C0 hW (hW.rf (h_ne hk345 (by decide))) (h_recv C0 hW (h_ne hk345 (by decide)) (h_c54 hk345) rfl) (c_l_J4_append_15ec4 hq346) cy_J4_append_15ec4 (by omega) tm_X14_45 ti_J4_append_15ec4 ts_J4_append_15ec4 rfl hl.1 rfl (Nat.le_of_ble_eq_true rfl) dX14_text_507) (fun H locs hW => ?_)
                                refine h_aload_n C0.hx C0.hb dX14_text_510 rfl (lv_at hl 0 rfl) ?_
                                obtain ⟨hk347, h⟩ := g_if h
                                refine hf_X14_3 C0 hW hk347 tf_X14_20 dX14_text_511 ?_
                                obtain ⟨hk348, h⟩ := g_if h
                                obtain ⟨q349, hq349, h⟩ := Option.bind_eq_some_iff.mp h
                                refine h_callr hW (h_runV (As := []) (rest := [g_rf G (q346.1)]) C0 hW (hW.rf (h_ne hk348 (by decide))) (h_recv C0 hW (h_ne hk348 (by decide)) (h_c51 hk348) rfl) (ihn _ _ _ hq349) cy_X14_text (by omega) tm_X14_66 ti_X14_text ts_X14_text rfl hl.1 rfl (by simp [g_catQ, h_ki, h_kr, h_kn, h_kl, h_kd]) dX14_text_514) (fun H locs hW => ?_)
                                obtain ⟨hk350, h⟩ := g_if h
                                obtain ⟨q351, hq351, h⟩ := Option.bind_eq_some_iff.mp h
                                refine h_callr hW (h_runV (As := [.ref (g_sa G (q349.1))]) (rest := []) C0 hW (hW.rf (h_ne hk350 (by decide))) (h_recv C0 hW (h_ne hk350 (by decide)) (h_c54 hk350) rfl) (c_l_J4_append_15ec4 hq351) cy_J4_append_15ec4 (by omega) tm_X14_45 ti_J4_append_15ec4 ts_J4_append_15ec4 rfl hl.1 rfl (Nat.le_of_ble_eq_true rfl) dX14_text_517) (fun H locs hW => ?_)
                                refine h_ldc C0 hW (n := 67) (List.mem_of_getElem? (i := 21) rfl) (by decide) dX14_text_520 ?_
                                obtain ⟨hk352, h⟩ := g_if h
                                obtain ⟨q353, hq353, h⟩ := Option.bind_eq_some_iff.mp h
                                refine h_callr hW (h_runV (As := [.ref (g_sa G (67))]) (rest := []) C0 hW (hW.rf (h_ne hk352 (by decide))) (h_recv C0 hW (h_ne hk352 (by decide)) (h_c54 hk352) rfl) (c_l_J4_append_15ec4 hq353) cy_J4_append_15ec4 (by omega) tm_X14_45 ti_J4_append_15ec4 ts_J4_append_15ec4 rfl hl.1 rfl (Nat.le_of_ble_eq_true rfl) dX14_text_522) (fun H locs hW => ?_)
                                obtain ⟨hk354, h⟩ := g_if h
                                obtain ⟨q355, hq355, h⟩ := Option.bind_eq_some_iff.mp h
                                refine h_callr hW (h_runV (As := []) (rest := []) C0 hW (hW.rf (h_ne hk354 (by decide))) (h_recv C0 hW (h_ne hk354 (by decide)) (h_c54 hk354) rfl) (c_l_J4_toString_0e30d hq355) cy_J4_toString_0e30d (by omega) tm_X14_52 ti_J4_toString_0e30d ts_J4_toString_0e30d rfl hl.1 rfl (Nat.le_of_ble_eq_true rfl) dX14_text_525) (fun H locs hW => ?_)
                                refine lv_goto (tgt := 575) C0.hx C0.hb dX14_text_528 (by decide) ?_
                                obtain rfl := Option.some.inj h
                                exact h_aretC C0 hW rfl rfl dX14_text_575
                            · replace h := (if_neg hc14).symm.trans h
                              by_cases hc15 : (h_I y t 0) = (13 : Int32)
                              · replace h := (if_pos hc15).symm.trans h
                                refine lv_tableIn (tgt := 465) C0.hx C0.hb dX14_text_4 (by rw [hc15]; decide) (by rw [hc15]; decide) (by rw [hc15]; rfl) (by decide) ?_
                                refine h_aload_n C0.hx C0.hb dX14_text_465 rfl (lv_at hl 0 rfl) ?_
                                refine hf_X14_0 C0 hW hk1 tf_X14_7 dX14_text_466 ?_
                                refine lv_bipush (v := (12 : Int32)) C0.hx C0.hb dX14_text_469 (by decide) ?_
                                refine lv_icmp_ge (tgt := 531) C0.hx C0.hb dX14_text_471 (by decide) (fun hc270 => ?_) (fun hc270 => ?_)
                                · replace h := (if_pos hc270).symm.trans h
                                  obtain ⟨hn271, h⟩ := g_if h
                                  refine hno_54 C0 hW hn271 tl_X14_40 dX14_text_531 (fun H hW => ?_)
                                  refine lv_dup C0.hx C0.hb dX14_text_534 g_catQ ?_
                                  obtain ⟨hk272, h⟩ := g_if h
                                  obtain ⟨q273, hq273, h⟩ := Option.bind_eq_some_iff.mp h
                                  refine h_callv hW (h_runI (As := []) (rest := [g_rf G (h_nx y)]) C0 hW (hW.rf (h_ne hk272 (by decide))) (c_l_J4_init_da8c8 hq273) cy_J4_init_da8c8 (by omega) tm_X14_42 ti_J4_init_da8c8 rfl rfl hl.1 rfl (by simp [g_catQ, h_ki, h_kr, h_kn, h_kl, h_kd]) dX14_text_535) (fun H locs hW => ?_)
                                  refine h_aload_n C0.hx C0.hb dX14_text_538 rfl (lv_at hl 0 rfl) ?_
                                  obtain ⟨hk274, h⟩ := g_if h
                                  refine hf_X14_2 C0 hW hk274 tf_X14_16 dX14_text_539 ?_
                                  obtain ⟨hk275, h⟩ := g_if h
                                  obtain ⟨q276, hq276, h⟩ := Option.bind_eq_some_iff.mp h
                                  refine h_callr hW (h_runV (As := []) (rest := [g_rf G (h_nx y)]) C0 hW (hW.rf (h_ne hk275 (by decide))) (h_recv C0 hW (h_ne hk275 (by decide)) (h_c51 hk275) rfl) (ihn _ _ _ hq276) cy_X14_text (by omega) tm_X14_66 ti_X14_text ts_X14_text rfl hl.1 rfl (by simp [g_catQ, h_ki, h_kr, h_kn, h_kl, h_kd]) dX14_text_542) (fun H locs hW => ?_)
                                  obtain ⟨hk277, h⟩ := g_if h
                                  obtain ⟨q278, hq278, h⟩ := Option.bind_eq_some_iff.mp h
                                  refine h_callr hW (h_runV (As := [.ref (g_sa G (q276.1))]) (rest := []) C0 hW (hW.rf (h_ne hk277 (by decide))) (h_recv C0 hW (h_ne hk277 (by decide)) (h_c54 hk277) rfl) (c_l_J4_append_15ec4 hq278) cy_J4_append_15ec4 (by omega) tm_X14_45 ti_J4_append_15ec4 ts_J4_append_15ec4 rfl hl.1 rfl (Nat.le_of_ble_eq_true rfl) dX14_text_545) (fun H locs hW => ?_)
                                  refine h_SGN C0 hW tfN_X14_95 dX14_text_548 ?_
                                  refine h_aload_n C0.hx C0.hb dX14_text_551 rfl (lv_at hl 0 rfl) ?_
                                  obtain ⟨hk279, h⟩ := g_if h
                                  refine hf_X14_0 C0 hW hk279 tf_X14_7 dX14_text_552 ?_
                                  refine lv_bipush (v := (8 : Int32)) C0.hx C0.hb dX14_text_555 (by decide) ?_
                                  refine lv_isub C0.hx C0.hb dX14_text_557 ?_
                                  obtain ⟨hn280, h⟩ := g_if h
                                  refine h_SGat C0 hW hn280 dX14_text_558 ?_
                                  obtain ⟨hk281, h⟩ := g_if h
                                  obtain ⟨q282, hq282, h⟩ := Option.bind_eq_some_iff.mp h
                                  refine h_callr hW (h_runV (As := [.ref (g_sa G (84 + ((h_I q278.2 t 0) - (8 : Int32)).toNatClampNeg))]) (rest := []) C0 hW (hW.rf (h_ne hk281 (by decide))) (h_recv C0 hW (h_ne hk281 (by decide)) (h_c54 hk281) rfl) (c_l_J4_append_15ec4 hq282) cy_J4_append_15ec4 (by omega) tm_X14_45 ti_J4_append_15ec4 ts_J4_append_15ec4 rfl hl.1 rfl (Nat.le_of_ble_eq_true rfl) dX14_text_559) (fun H locs hW => ?_)
                                  refine h_aload_n C0.hx C0.hb dX14_text_562 rfl (lv_at hl 0 rfl) ?_
                                  obtain ⟨hk283, h⟩ := g_if h
                                  refine hf_X14_3 C0 hW hk283 tf_X14_20 dX14_text_563 ?_
                                  obtain ⟨hk284, h⟩ := g_if h
                                  obtain ⟨q285, hq285, h⟩ := Option.bind_eq_some_iff.mp h
                                  refine h_callr hW (h_runV (As := []) (rest := [g_rf G (q282.1)]) C0 hW (hW.rf (h_ne hk284 (by decide))) (h_recv C0 hW (h_ne hk284 (by decide)) (h_c51 hk284) rfl) (ihn _ _ _ hq285) cy_X14_text (by omega) tm_X14_66 ti_X14_text ts_X14_text rfl hl.1 rfl (by simp [g_catQ, h_ki, h_kr, h_kn, h_kl, h_kd]) dX14_text_566) (fun H locs hW => ?_)
                                  obtain ⟨hk286, h⟩ := g_if h
                                  obtain ⟨q287, hq287, h⟩ := Option.bind_eq_some_iff.mp h
                                  refine h_callr hW (h_runV (As := [.ref (g_sa G (q285.1))]) (rest := []) C0 hW (hW.rf (h_ne hk286 (by decide))) (h_recv C0 hW (h_ne hk286 (by decide)) (h_c54 hk286) rfl) (c_l_J4_append_15ec4 hq287) cy_J4_append_15ec4 (by omega) tm_X14_45 ti_J4_append_15ec4 ts_J4_append_15ec4 rfl hl.1 rfl (Nat.le_of_ble_eq_true rfl) dX14_text_569) (fun H locs hW => ?_)
                                  obtain ⟨hk288, h⟩ := g_if h
                                  obtain ⟨q289, hq289, h⟩ := Option.bind_eq_some_iff.mp h
                                  refine h_callr hW (h_runV (As := []) (rest := []) C0 hW (hW.rf (h_ne hk288 (by decide))) (h_recv C0 hW (h_ne hk288 (by decide)) (h_c54 hk288) rfl) (c_l_J4_toString_0e30d hq289) cy_J4_toString_0e30d (by omega) tm_X14_52 ti_J4_toString_0e30d ts_J4_toString_0e30d rfl hl.1 rfl (Nat.le_of_ble_eq_true rfl) dX14_text_572) (fun H locs hW => ?_)
                                  obtain rfl := Option.some.inj h
                                  exact h_aretC C0 hW rfl rfl dX14_text_575
                                · replace h := (if_neg hc270).symm.trans h
                                  obtain ⟨hn290, h⟩ := g_if h
                                  refine hno_54 C0 hW hn290 tl_X14_40 dX14_text_474 (fun H hW => ?_)
                                  refine lv_dup C0.hx C0.hb dX14_text_477 g_catQ ?_
                                  obtain ⟨hk291, h⟩ := g_if h
                                  obtain ⟨q292, hq292, h⟩ := Option.bind_eq_some_iff.mp h
                                  refine h_callv hW (h_runI (As := []) (rest := [g_rf G (h_nx y)]) C0 hW (hW.rf (h_ne hk291 (by decide))) (c_l_J4_init_da8c8 hq292) cy_J4_init_da8c8 (by omega) tm_X14_42 ti_J4_init_da8c8 rfl rfl hl.1 rfl (by simp [g_catQ, h_ki, h_kr, h_kn, h_kl, h_kd]) dX14_text_478) (fun H locs hW => ?_)
                                  refine h_ldc C0 hW (n := 77) (List.mem_of_getElem? (i := 31) rfl) (by decide) dX14_text_481 ?_
                                  obtain ⟨hk293, h⟩ := g_if h
                                  obtain ⟨q294, hq294, h⟩ := Option.bind_eq_some_iff.mp h
                                  refine h_callr hW (h_runV (As := [.ref (g_sa G (77))]) (rest := []) C0 hW (hW.rf (h_ne hk293 (by decide))) (h_recv C0 hW (h_ne hk293 (by decide)) (h_c54 hk293) rfl) (c_l_J4_append_15ec4 hq294) cy_J4_append_15ec4 (by omega) tm_X14_45 ti_J4_append_15ec4 ts_J4_append_15ec4 rfl hl.1 rfl (Nat.le_of_ble_eq_true rfl) dX14_text_483) (fun H locs hW => ?_)
                                  refine h_aload_n C0.hx C0.hb dX14_text_486 rfl (lv_at hl 0 rfl) ?_
                                  obtain ⟨hk295, h⟩ := g_if h
                                  refine hf_X14_2 C0 hW hk295 tf_X14_16 dX14_text_487 ?_
                                  obtain ⟨hk296, h⟩ := g_if h
                                  obtain ⟨q297, hq297, h⟩ := Option.bind_eq_some_iff.mp h
                                  refine h_callr hW (h_runV (As := []) (rest := [g_rf G (q294.1)]) C0 hW (hW.rf (h_ne hk296 (by decide))) (h_recv C0 hW (h_ne hk296 (by decide)) (h_c51 hk296) rfl) (ihn _ _ _ hq297) cy_X14_text (by omega) tm_X14_66 ti_X14_text ts_X14_text rfl hl.1 rfl (by simp [g_catQ, h_ki, h_kr, h_kn, h_kl, h_kd]) dX14_text_490) (fun H locs hW => ?_)
                                  obtain ⟨hk298, h⟩ := g_if h
                                  obtain ⟨q299, hq299, h⟩ := Option.bind_eq_some_iff.mp h
                                  refine h_callr hW (h_runV (As := [.ref (g_sa G (q297.1))]) (rest := []) C0 hW (hW.rf (h_ne hk298 (by decide))) (h_recv C0 hW (h_ne hk298 (by decide)) (h_c54 hk298) rfl) (c_l_J4_append_15ec4 hq299) cy_J4_append_15ec4 (by omega) tm_X14_45 ti_J4_append_15ec4 ts_J4_append_15ec4 rfl hl.1 rfl (Nat.le_of_ble_eq_true rfl) dX14_text_493) (fun H locs hW => ?_)
                                  refine h_SGN C0 hW tfN_X14_95 dX14_text_496 ?_
                                  refine h_aload_n C0.hx C0.hb dX14_text_499 rfl (lv_at hl 0 rfl) ?_
                                  obtain ⟨hk300, h⟩ := g_if h
                                  refine hf_X14_0 C0 hW hk300 tf_X14_7 dX14_text_500 ?_
                                  refine lv_bipush (v := (8 : Int32)) C0.hx C0.hb dX14_text_503 (by decide) ?_
                                  refine lv_isub C0.hx C0.hb dX14_text_505 ?_
                                  obtain ⟨hn301, h⟩ := g_if h
                                  refine h_SGat C0 hW hn301 dX14_text_506 ?_
                                  obtain ⟨hk302, h⟩ := g_if h
                                  obtain ⟨q303, hq303, h⟩ := Option.bind_eq_some_iff.mp h
                                  refine h_callr hW (h_runV (As := [.ref (g_sa G (84 + ((h_I q299.2 t 0) - (8 : Int32)).toNatClampNeg))]) (rest := []) C0 hW (hW.rf (h_ne hk302 (by decide))) (h_recv C0 hW (h_ne hk302 (by decide)) (h_c54 hk302) rfl) (c_l_J4_append_15ec4 hq303) cy_J4_append_15ec4 (by omega) tm_X14_45 ti_J4_append_15ec4 ts_J4_append_15ec4 rfl hl.1 rfl (Nat.le_of_ble_eq_true rfl) dX14_text_507) (fun H locs hW => ?_)
                                  refine h_aload_n C0.hx C0.hb dX14_text_510 rfl (lv_at hl 0 rfl) ?_
                                  obtain ⟨hk304, h⟩ := g_if h
                                  refine hf_X14_3 C0 hW hk304 tf_X14_20 dX14_text_511 ?_
                                  obtain ⟨hk305, h⟩ := g_if h
                                  obtain ⟨q306, hq306, h⟩ := Option.bind_eq_some_iff.mp h
                                  refine h_callr hW (h_runV (As := []) (rest := [g_rf G (q303.1)]) C0 hW (hW.rf (h_ne hk305 (by decide))) (h_recv C0 hW (h_ne hk305 (by decide)) (h_c51 hk305) rfl) (ihn _ _ _ hq306) cy_X14_text (by omega) tm_X14_66 ti_X14_text ts_X14_text rfl hl.1 rfl (by simp [g_catQ, h_ki, h_kr, h_kn, h_kl, h_kd]) dX14_text_514) (fun H locs hW => ?_)
                                  obtain ⟨hk307, h⟩ := g_if h
                                  obtain ⟨q308, hq308, h⟩ := Option.bind_eq_some_iff.mp h
                                  refine h_callr hW (h_runV (As := [.ref (g_sa G (q306.1))]) (rest := []) C0 hW (hW.rf (h_ne hk307 (by decide))) (h_recv C0 hW (h_ne hk307 (by decide)) (h_c54 hk307) rfl) (c_l_J4_append_15ec4 hq308) cy_J4_append_15ec4 (by omega) tm_X14_45 ti_J4_append_15ec4 ts_J4_append_15ec4 rfl hl.1 rfl (Nat.le_of_ble_eq_true rfl) dX14_text_517) (fun H locs hW => ?_)
                                  refine h_ldc C0 hW (n := 67) (List.mem_of_getElem? (i := 21) rfl) (by decide) dX14_text_520 ?_
                                  obtain ⟨hk309, h⟩ := g_if h
                                  obtain ⟨q310, hq310, h⟩ := Option.bind_eq_some_iff.mp h
                                  refine h_callr hW (h_runV (As := [.ref (g_sa G (67))]) (rest := []) C0 hW (hW.rf (h_ne hk309 (by decide))) (h_recv C0 hW (h_ne hk309 (by decide)) (h_c54 hk309) rfl) (c_l_J4_append_15ec4 hq310) cy_J4_append_15ec4 (by omega) tm_X14_45 ti_J4_append_15ec4 ts_J4_append_15ec4 rfl hl.1 rfl (Nat.le_of_ble_eq_true rfl) dX14_text_522) (fun H locs hW => ?_)
                                  obtain ⟨hk311, h⟩ := g_if h
                                  obtain ⟨q312, hq312, h⟩ := Option.bind_eq_some_iff.mp h
                                  refine h_callr hW (h_runV (As := []) (rest := []) C0 hW (hW.rf (h_ne hk311 (by decide))) (h_recv C0 hW (h_ne hk311 (by decide)) (h_c54 hk311) rfl) (c_l_J4_toString_0e30d hq312) cy_J4_toString_0e30d (by omega) tm_X14_52 ti_J4_toString_0e30d ts_J4_toString_0e30d rfl hl.1 rfl (Nat.le_of_ble_eq_true rfl) dX14_text_525) (fun H locs hW => ?_)
                                  refine lv_goto (tgt := 575) C0.hx C0.hb dX14_text_528 (by decide) ?_
                                  obtain rfl := Option.some.inj h
                                  exact h_aretC C0 hW rfl rfl dX14_text_575
                              · replace h := (if_neg hc15).symm.trans h
                                by_cases hc16 : (h_I y t 0) = (14 : Int32)
                                · replace h := (if_pos hc16).symm.trans h
                                  refine lv_tableIn (tgt := 465) C0.hx C0.hb dX14_text_4 (by rw [hc16]; decide) (by rw [hc16]; decide) (by rw [hc16]; rfl) (by decide) ?_
                                  refine h_aload_n C0.hx C0.hb dX14_text_465 rfl (lv_at hl 0 rfl) ?_
                                  refine hf_X14_0 C0 hW hk1 tf_X14_7 dX14_text_466 ?_
                                  refine lv_bipush (v := (12 : Int32)) C0.hx C0.hb dX14_text_469 (by decide) ?_
                                  refine lv_icmp_ge (tgt := 531) C0.hx C0.hb dX14_text_471 (by decide) (fun hc227 => ?_) (fun hc227 => ?_)
                                  · replace h := (if_pos hc227).symm.trans h
                                    obtain ⟨hn228, h⟩ := g_if h
                                    refine hno_54 C0 hW hn228 tl_X14_40 dX14_text_531 (fun H hW => ?_)
                                    refine lv_dup C0.hx C0.hb dX14_text_534 g_catQ ?_
                                    obtain ⟨hk229, h⟩ := g_if h
                                    obtain ⟨q230, hq230, h⟩ := Option.bind_eq_some_iff.mp h
                                    refine h_callv hW (h_runI (As := []) (rest := [g_rf G (h_nx y)]) C0 hW (hW.rf (h_ne hk229 (by decide))) (c_l_J4_init_da8c8 hq230) cy_J4_init_da8c8 (by omega) tm_X14_42 ti_J4_init_da8c8 rfl rfl hl.1 rfl (by simp [g_catQ, h_ki, h_kr, h_kn, h_kl, h_kd]) dX14_text_535) (fun H locs hW => ?_)
                                    refine h_aload_n C0.hx C0.hb dX14_text_538 rfl (lv_at hl 0 rfl) ?_
                                    obtain ⟨hk231, h⟩ := g_if h
                                    refine hf_X14_2 C0 hW hk231 tf_X14_16 dX14_text_539 ?_
                                    obtain ⟨hk232, h⟩ := g_if h
                                    obtain ⟨q233, hq233, h⟩ := Option.bind_eq_some_iff.mp h
                                    refine h_callr hW (h_runV (As := []) (rest := [g_rf G (h_nx y)]) C0 hW (hW.rf (h_ne hk232 (by decide))) (h_recv C0 hW (h_ne hk232 (by decide)) (h_c51 hk232) rfl) (ihn _ _ _ hq233) cy_X14_text (by omega) tm_X14_66 ti_X14_text ts_X14_text rfl hl.1 rfl (by simp [g_catQ, h_ki, h_kr, h_kn, h_kl, h_kd]) dX14_text_542) (fun H locs hW => ?_)
                                    obtain ⟨hk234, h⟩ := g_if h
                                    obtain ⟨q235, hq235, h⟩ := Option.bind_eq_some_iff.mp h
                                    refine h_callr hW (h_runV (As := [.ref (g_sa G (q233.1))]) (rest := []) C0 hW (hW.rf (h_ne hk234 (by decide))) (h_recv C0 hW (h_ne hk234 (by decide)) (h_c54 hk234) rfl) (c_l_J4_append_15ec4 hq235) cy_J4_append_15ec4 (by omega) tm_X14_45 ti_J4_append_15ec4 ts_J4_append_15ec4 rfl hl.1 rfl (Nat.le_of_ble_eq_true rfl) dX14_text_545) (fun H locs hW => ?_)
                                    refine h_SGN C0 hW tfN_X14_95 dX14_text_548 ?_
                                    refine h_aload_n C0.hx C0.hb dX14_text_551 rfl (lv_at hl 0 rfl) ?_
                                    obtain ⟨hk236, h⟩ := g_if h
                                    refine hf_X14_0 C0 hW hk236 tf_X14_7 dX14_text_552 ?_
                                    refine lv_bipush (v := (8 : Int32)) C0.hx C0.hb dX14_text_555 (by decide) ?_
                                    refine lv_isub C0.hx C0.hb dX14_text_557 ?_
                                    obtain ⟨hn237, h⟩ := g_if h
                                    refine h_SGat C0 hW hn237 dX14_text_558 ?_
                                    obtain ⟨hk238, h⟩ := g_if h
                                    obtain ⟨q239, hq239, h⟩ := Option.bind_eq_some_iff.mp h
                                    refine h_callr hW (h_runV (As := [.ref (g_sa G (84 + ((h_I q235.2 t 0) - (8 : Int32)).toNatClampNeg))]) (rest := []) C0 hW (hW.rf (h_ne hk238 (by decide))) (h_recv C0 hW (h_ne hk238 (by decide)) (h_c54 hk238) rfl) (c_l_J4_append_15ec4 hq239) cy_J4_append_15ec4 (by omega) tm_X14_45 ti_J4_append_15ec4 ts_J4_append_15ec4 rfl hl.1 rfl (Nat.le_of_ble_eq_true rfl) dX14_text_559) (fun H locs hW => ?_)
                                    refine h_aload_n C0.hx C0.hb dX14_text_562 rfl (lv_at hl 0 rfl) ?_
                                    obtain ⟨hk240, h⟩ := g_if h
                                    refine hf_X14_3 C0 hW hk240 tf_X14_20 dX14_text_563 ?_
                                    obtain ⟨hk241, h⟩ := g_if h
                                    obtain ⟨q242, hq242, h⟩ := Option.bind_eq_some_iff.mp h
                                    refine h_callr hW (h_runV (As := []) (rest := [g_rf G (q239.1)]) C0 hW (hW.rf (h_ne hk241 (by decide))) (h_recv C0 hW (h_ne hk241 (by decide)) (h_c51 hk241) rfl) (ihn _ _ _ hq242) cy_X14_text (by omega) tm_X14_66 ti_X14_text ts_X14_text rfl hl.1 rfl (by simp [g_catQ, h_ki, h_kr, h_kn, h_kl, h_kd]) dX14_text_566) (fun H locs hW => ?_)
                                    obtain ⟨hk243, h⟩ := g_if h
                                    obtain ⟨q244, hq244, h⟩ := Option.bind_eq_some_iff.mp h
                                    refine h_callr hW (h_runV (As := [.ref (g_sa G (q242.1))]) (rest := []) C0 hW (hW.rf (h_ne hk243 (by decide))) (h_recv C0 hW (h_ne hk243 (by decide)) (h_c54 hk243) rfl) (c_l_J4_append_15ec4 hq244) cy_J4_append_15ec4 (by omega) tm_X14_45 ti_J4_append_15ec4 ts_J4_append_15ec4 rfl hl.1 rfl (Nat.le_of_ble_eq_true rfl) dX14_text_569) (fun H locs hW => ?_)
                                    obtain ⟨hk245, h⟩ := g_if h
                                    obtain ⟨q246, hq246, h⟩ := Option.bind_eq_some_iff.mp h
                                    refine h_callr hW (h_runV (As := []) (rest := []) C0 hW (hW.rf (h_ne hk245 (by decide))) (h_recv C0 hW (h_ne hk245 (by decide)) (h_c54 hk245) rfl) (c_l_J4_toString_0e30d hq246) cy_J4_toString_0e30d (by omega) tm_X14_52 ti_J4_toString_0e30d ts_J4_toString_0e30d rfl hl.1 rfl (Nat.le_of_ble_eq_true rfl) dX14_text_572) (fun H locs hW => ?_)
                                    obtain rfl := Option.some.inj h
                                    exact h_aretC C0 hW rfl rfl dX14_text_575
                                  · replace h := (if_neg hc227).symm.trans h
                                    obtain ⟨hn247, h⟩ := g_if h
                                    refine hno_54 C0 hW hn247 tl_X14_40 dX14_text_474 (fun H hW => ?_)
                                    refine lv_dup C0.hx C0.hb dX14_text_477 g_catQ ?_
                                    obtain ⟨hk248, h⟩ := g_if h
                                    obtain ⟨q249, hq249, h⟩ := Option.bind_eq_some_iff.mp h
                                    refine h_callv hW (h_runI (As := []) (rest := [g_rf G (h_nx y)]) C0 hW (hW.rf (h_ne hk248 (by decide))) (c_l_J4_init_da8c8 hq249) cy_J4_init_da8c8 (by omega) tm_X14_42 ti_J4_init_da8c8 rfl rfl hl.1 rfl (by simp [g_catQ, h_ki, h_kr, h_kn, h_kl, h_kd]) dX14_text_478) (fun H locs hW => ?_)
                                    refine h_ldc C0 hW (n := 77) (List.mem_of_getElem? (i := 31) rfl) (by decide) dX14_text_481 ?_
                                    obtain ⟨hk250, h⟩ := g_if h
                                    obtain ⟨q251, hq251, h⟩ := Option.bind_eq_some_iff.mp h
                                    refine h_callr hW (h_runV (As := [.ref (g_sa G (77))]) (rest := []) C0 hW (hW.rf (h_ne hk250 (by decide))) (h_recv C0 hW (h_ne hk250 (by decide)) (h_c54 hk250) rfl) (c_l_J4_append_15ec4 hq251) cy_J4_append_15ec4 (by omega) tm_X14_45 ti_J4_append_15ec4 ts_J4_append_15ec4 rfl hl.1 rfl (Nat.le_of_ble_eq_true rfl) dX14_text_483) (fun H locs hW => ?_)
                                    refine h_aload_n C0.hx C0.hb dX14_text_486 rfl (lv_at hl 0 rfl) ?_
                                    obtain ⟨hk252, h⟩ := g_if h
                                    refine hf_X14_2 C0 hW hk252 tf_X14_16 dX14_text_487 ?_
                                    obtain ⟨hk253, h⟩ := g_if h
                                    obtain ⟨q254, hq254, h⟩ := Option.bind_eq_some_iff.mp h
                                    refine h_callr hW (h_runV (As := []) (rest := [g_rf G (q251.1)]) C0 hW (hW.rf (h_ne hk253 (by decide))) (h_recv C0 hW (h_ne hk253 (by decide)) (h_c51 hk253) rfl) (ihn _ _ _ hq254) cy_X14_text (by omega) tm_X14_66 ti_X14_text ts_X14_text rfl hl.1 rfl (by simp [g_catQ, h_ki, h_kr, h_kn, h_kl, h_kd]) dX14_text_490) (fun H locs hW => ?_)
                                    obtain ⟨hk255, h⟩ := g_if h
                                    obtain ⟨q256, hq256, h⟩ := Option.bind_eq_some_iff.mp h
                                    refine h_callr hW (h_runV (As := [.ref (g_sa G (q254.1))]) (rest := []) C0 hW (hW.rf (h_ne hk255 (by decide))) (h_recv C0 hW (h_ne hk255 (by decide)) (h_c54 hk255) rfl) (c_l_J4_append_15ec4 hq256) cy_J4_append_15ec4 (by omega) tm_X14_45 ti_J4_append_15ec4 ts_J4_append_15ec4 rfl hl.1 rfl (Nat.le_of_ble_eq_true rfl) dX14_text_493) (fun H locs hW => ?_)
                                    refine h_SGN C0 hW tfN_X14_95 dX14_text_496 ?_
                                    refine h_aload_n C0.hx C0.hb dX14_text_499 rfl (lv_at hl 0 rfl) ?_
                                    obtain ⟨hk257, h⟩ := g_if h
                                    refine hf_X14_0 C0 hW hk257 tf_X14_7 dX14_text_500 ?_
                                    refine lv_bipush (v := (8 : Int32)) C0.hx C0.hb dX14_text_503 (by decide) ?_
                                    refine lv_isub C0.hx C0.hb dX14_text_505 ?_
                                    obtain ⟨hn258, h⟩ := g_if h
                                    refine h_SGat C0 hW hn258 dX14_text_506 ?_
                                    obtain ⟨hk259, h⟩ := g_if h
                                    obtain ⟨q260, hq260, h⟩ := Option.bind_eq_some_iff.mp h
                                    refine h_callr hW (h_runV (As := [.ref (g_sa G (84 + ((h_I q256.2 t 0) - (8 : Int32)).toNatClampNeg))]) (rest := []) C0 hW (hW.rf (h_ne hk259 (by decide))) (h_recv C0 hW (h_ne hk259 (by decide)) (h_c54 hk259) rfl) (c_l_J4_append_15ec4 hq260) cy_J4_append_15ec4 (by omega) tm_X14_45 ti_J4_append_15ec4 ts_J4_append_15ec4 rfl hl.1 rfl (Nat.le_of_ble_eq_true rfl) dX14_text_507) (fun H locs hW => ?_)
                                    refine h_aload_n C0.hx C0.hb dX14_text_510 rfl (lv_at hl 0 rfl) ?_
                                    obtain ⟨hk261, h⟩ := g_if h
                                    refine hf_X14_3 C0 hW hk261 tf_X14_20 dX14_text_511 ?_
                                    obtain ⟨hk262, h⟩ := g_if h
                                    obtain ⟨q263, hq263, h⟩ := Option.bind_eq_some_iff.mp h
                                    refine h_callr hW (h_runV (As := []) (rest := [g_rf G (q260.1)]) C0 hW (hW.rf (h_ne hk262 (by decide))) (h_recv C0 hW (h_ne hk262 (by decide)) (h_c51 hk262) rfl) (ihn _ _ _ hq263) cy_X14_text (by omega) tm_X14_66 ti_X14_text ts_X14_text rfl hl.1 rfl (by simp [g_catQ, h_ki, h_kr, h_kn, h_kl, h_kd]) dX14_text_514) (fun H locs hW => ?_)
                                    obtain ⟨hk264, h⟩ := g_if h
                                    obtain ⟨q265, hq265, h⟩ := Option.bind_eq_some_iff.mp h
                                    refine h_callr hW (h_runV (As := [.ref (g_sa G (q263.1))]) (rest := []) C0 hW (hW.rf (h_ne hk264 (by decide))) (h_recv C0 hW (h_ne hk264 (by decide)) (h_c54 hk264) rfl) (c_l_J4_append_15ec4 hq265) cy_J4_append_15ec4 (by omega) tm_X14_45 ti_J4_append_15ec4 ts_J4_append_15ec4 rfl hl.1 rfl (Nat.le_of_ble_eq_true rfl) dX14_text_517) (fun H locs hW => ?_)
                                    refine h_ldc C0 hW (n := 67) (List.mem_of_getElem? (i := 21) rfl) (by decide) dX14_text_520 ?_
                                    obtain ⟨hk266, h⟩ := g_if h
                                    obtain ⟨q267, hq267, h⟩ := Option.bind_eq_some_iff.mp h
                                    refine h_callr hW (h_runV (As := [.ref (g_sa G (67))]) (rest := []) C0 hW (hW.rf (h_ne hk266 (by decide))) (h_recv C0 hW (h_ne hk266 (by decide)) (h_c54 hk266) rfl) (c_l_J4_append_15ec4 hq267) cy_J4_append_15ec4 (by omega) tm_X14_45 ti_J4_append_15ec4 ts_J4_append_15ec4 rfl hl.1 rfl (Nat.le_of_ble_eq_true rfl) dX14_text_522) (fun H locs hW => ?_)
                                    obtain ⟨hk268, h⟩ := g_if h
                                    obtain ⟨q269, hq269, h⟩ := Option.bind_eq_some_iff.mp h
                                    refine h_callr hW (h_runV (As := []) (rest := []) C0 hW (hW.rf (h_ne hk268 (by decide))) (h_recv C0 hW (h_ne hk268 (by decide)) (h_c54 hk268) rfl) (c_l_J4_toString_0e30d hq269) cy_J4_toString_0e30d (by omega) tm_X14_52 ti_J4_toString_0e30d ts_J4_toString_0e30d rfl hl.1 rfl (Nat.le_of_ble_eq_true rfl) dX14_text_525) (fun H locs hW => ?_)
                                    refine lv_goto (tgt := 575) C0.hx C0.hb dX14_text_528 (by decide) ?_
                                    obtain rfl := Option.some.inj h
                                    exact h_aretC C0 hW rfl rfl dX14_text_575
                                · replace h := (if_neg hc16).symm.trans h
                                  by_cases hc17 : (h_I y t 0) = (15 : Int32)
                                  · replace h := (if_pos hc17).symm.trans h
                                    refine lv_tableIn (tgt := 465) C0.hx C0.hb dX14_text_4 (by rw [hc17]; decide) (by rw [hc17]; decide) (by rw [hc17]; rfl) (by decide) ?_
                                    refine h_aload_n C0.hx C0.hb dX14_text_465 rfl (lv_at hl 0 rfl) ?_
                                    refine hf_X14_0 C0 hW hk1 tf_X14_7 dX14_text_466 ?_
                                    refine lv_bipush (v := (12 : Int32)) C0.hx C0.hb dX14_text_469 (by decide) ?_
                                    refine lv_icmp_ge (tgt := 531) C0.hx C0.hb dX14_text_471 (by decide) (fun hc184 => ?_) (fun hc184 => ?_)
                                    · replace h := (if_pos hc184).symm.trans h
                                      obtain ⟨hn185, h⟩ := g_if h
                                      refine hno_54 C0 hW hn185 tl_X14_40 dX14_text_531 (fun H hW => ?_)
                                      refine lv_dup C0.hx C0.hb dX14_text_534 g_catQ ?_
                                      obtain ⟨hk186, h⟩ := g_if h
                                      obtain ⟨q187, hq187, h⟩ := Option.bind_eq_some_iff.mp h
                                      refine h_callv hW (h_runI (As := []) (rest := [g_rf G (h_nx y)]) C0 hW (hW.rf (h_ne hk186 (by decide))) (c_l_J4_init_da8c8 hq187) cy_J4_init_da8c8 (by omega) tm_X14_42 ti_J4_init_da8c8 rfl rfl hl.1 rfl (by simp [g_catQ, h_ki, h_kr, h_kn, h_kl, h_kd]) dX14_text_535) (fun H locs hW => ?_)
                                      refine h_aload_n C0.hx C0.hb dX14_text_538 rfl (lv_at hl 0 rfl) ?_
                                      obtain ⟨hk188, h⟩ := g_if h
                                      refine hf_X14_2 C0 hW hk188 tf_X14_16 dX14_text_539 ?_
                                      obtain ⟨hk189, h⟩ := g_if h
                                      obtain ⟨q190, hq190, h⟩ := Option.bind_eq_some_iff.mp h
                                      refine h_callr hW (h_runV (As := []) (rest := [g_rf G (h_nx y)]) C0 hW (hW.rf (h_ne hk189 (by decide))) (h_recv C0 hW (h_ne hk189 (by decide)) (h_c51 hk189) rfl) (ihn _ _ _ hq190) cy_X14_text (by omega) tm_X14_66 ti_X14_text ts_X14_text rfl hl.1 rfl (by simp [g_catQ, h_ki, h_kr, h_kn, h_kl, h_kd]) dX14_text_542) (fun H locs hW => ?_)
                                      obtain ⟨hk191, h⟩ := g_if h
                                      obtain ⟨q192, hq192, h⟩ := Option.bind_eq_some_iff.mp h
                                      refine h_callr hW (h_runV (As := [.ref (g_sa G (q190.1))]) (rest := []) C0 hW (hW.rf (h_ne hk191 (by decide))) (h_recv C0 hW (h_ne hk191 (by decide)) (h_c54 hk191) rfl) (c_l_J4_append_15ec4 hq192) cy_J4_append_15ec4 (by omega) tm_X14_45 ti_J4_append_15ec4 ts_J4_append_15ec4 rfl hl.1 rfl (Nat.le_of_ble_eq_true rfl) dX14_text_545) (fun H locs hW => ?_)
                                      refine h_SGN C0 hW tfN_X14_95 dX14_text_548 ?_
                                      refine h_aload_n C0.hx C0.hb dX14_text_551 rfl (lv_at hl 0 rfl) ?_
                                      obtain ⟨hk193, h⟩ := g_if h
                                      refine hf_X14_0 C0 hW hk193 tf_X14_7 dX14_text_552 ?_
                                      refine lv_bipush (v := (8 : Int32)) C0.hx C0.hb dX14_text_555 (by decide) ?_
                                      refine lv_isub C0.hx C0.hb dX14_text_557 ?_
                                      obtain ⟨hn194, h⟩ := g_if h
                                      refine h_SGat C0 hW hn194 dX14_text_558 ?_
                                      obtain ⟨hk195, h⟩ := g_if h
                                      obtain ⟨q196, hq196, h⟩ := Option.bind_eq_some_iff.mp h
                                      refine h_callr hW (h_runV (As := [.ref (g_sa G (84 + ((h_I q192.2 t 0) - (8 : Int32)).toNatClampNeg))]) (rest := []) C0 hW (hW.rf (h_ne hk195 (by decide))) (h_recv C0 hW (h_ne hk195 (by decide)) (h_c54 hk195) rfl) (c_l_J4_append_15ec4 hq196) cy_J4_append_15ec4 (by omega) tm_X14_45 ti_J4_append_15ec4 ts_J4_append_15ec4 rfl hl.1 rfl (Nat.le_of_ble_eq_true rfl) dX14_text_559) (fun H locs hW => ?_)
                                      refine h_aload_n C0.hx C0.hb dX14_text_562 rfl (lv_at hl 0 rfl) ?_
                                      obtain ⟨hk197, h⟩ := g_if h
                                      refine hf_X14_3 C0 hW hk197 tf_X14_20 dX14_text_563 ?_
                                      obtain ⟨hk198, h⟩ := g_if h
                                      obtain ⟨q199, hq199, h⟩ := Option.bind_eq_some_iff.mp h
                                      refine h_callr hW (h_runV (As := []) (rest := [g_rf G (q196.1)]) C0 hW (hW.rf (h_ne hk198 (by decide))) (h_recv C0 hW (h_ne hk198 (by decide)) (h_c51 hk198) rfl) (ihn _ _ _ hq199) cy_X14_text (by omega) tm_X14_66 ti_X14_text ts_X14_text rfl hl.1 rfl (by simp [g_catQ, h_ki, h_kr, h_kn, h_kl, h_kd]) dX14_text_566) (fun H locs hW => ?_)
                                      obtain ⟨hk200, h⟩ := g_if h
                                      obtain ⟨q201, hq201, h⟩ := Option.bind_eq_some_iff.mp h
                                      refine h_callr hW (h_runV (As := [.ref (g_sa G (q199.1))]) (rest := []) C0 hW (hW.rf (h_ne hk200 (by decide))) (h_recv C0 hW (h_ne hk200 (by decide)) (h_c54 hk200) rfl) (c_l_J4_append_15ec4 hq201) cy_J4_append_15ec4 (by omega) tm_X14_45 ti_J4_append_15ec4 ts_J4_append_15ec4 rfl hl.1 rfl (Nat.le_of_ble_eq_true rfl) dX14_text_569) (fun H locs hW => ?_)
                                      obtain ⟨hk202, h⟩ := g_if h
                                      obtain ⟨q203, hq203, h⟩ := Option.bind_eq_some_iff.mp h
                                      refine h_callr hW (h_runV (As := []) (rest := []) C0 hW (hW.rf (h_ne hk202 (by decide))) (h_recv C0 hW (h_ne hk202 (by decide)) (h_c54 hk202) rfl) (c_l_J4_toString_0e30d hq203) cy_J4_toString_0e30d (by omega) tm_X14_52 ti_J4_toString_0e30d ts_J4_toString_0e30d rfl hl.1 rfl (Nat.le_of_ble_eq_true rfl) dX14_text_572) (fun H locs hW => ?_)
                                      obtain rfl := Option.some.inj h
                                      exact h_aretC C0 hW rfl rfl dX14_text_575
                                    · replace h := (if_neg hc184).symm.trans h
                                      obtain ⟨hn204, h⟩ := g_if h
                                      refine hno_54 C0 hW hn204 tl_X14_40 dX14_text_474 (fun H hW => ?_)
                                      refine lv_dup C0.hx C0.hb dX14_text_477 g_catQ ?_
                                      obtain ⟨hk205, h⟩ := g_if h
                                      obtain ⟨q206, hq206, h⟩ := Option.bind_eq_some_iff.mp h
                                      refine h_callv hW (h_runI (As := []) (rest := [g_rf G (h_nx y)]) C0 hW (hW.rf (h_ne hk205 (by decide))) (c_l_J4_init_da8c8 hq206) cy_J4_init_da8c8 (by omega) tm_X14_42 ti_J4_init_da8c8 rfl rfl hl.1 rfl (by simp [g_catQ, h_ki, h_kr, h_kn, h_kl, h_kd]) dX14_text_478) (fun H locs hW => ?_)
                                      refine h_ldc C0 hW (n := 77) (List.mem_of_getElem? (i := 31) rfl) (by decide) dX14_text_481 ?_
                                      obtain ⟨hk207, h⟩ := g_if h
                                      obtain ⟨q208, hq208, h⟩ := Option.bind_eq_some_iff.mp h
                                      refine h_callr hW (h_runV (As := [.ref (g_sa G (77))]) (rest := []) C0 hW (hW.rf (h_ne hk207 (by decide))) (h_recv C0 hW (h_ne hk207 (by decide)) (h_c54 hk207) rfl) (c_l_J4_append_15ec4 hq208) cy_J4_append_15ec4 (by omega) tm_X14_45 ti_J4_append_15ec4 ts_J4_append_15ec4 rfl hl.1 rfl (Nat.le_of_ble_eq_true rfl) dX14_text_483) (fun H locs hW => ?_)
                                      refine h_aload_n C0.hx C0.hb dX14_text_486 rfl (lv_at hl 0 rfl) ?_
                                      obtain ⟨hk209, h⟩ := g_if h
                                      refine hf_X14_2 C0 hW hk209 tf_X14_16 dX14_text_487 ?_
                                      obtain ⟨hk210, h⟩ := g_if h
                                      obtain ⟨q211, hq211, h⟩ := Option.bind_eq_some_iff.mp h
                                      refine h_callr hW (h_runV (As := []) (rest := [g_rf G (q208.1)]) C0 hW (hW.rf (h_ne hk210 (by decide))) (h_recv C0 hW (h_ne hk210 (by decide)) (h_c51 hk210) rfl) (ihn _ _ _ hq211) cy_X14_text (by omega) tm_X14_66 ti_X14_text ts_X14_text rfl hl.1 rfl (by simp [g_catQ, h_ki, h_kr, h_kn, h_kl, h_kd]) dX14_text_490) (fun H locs hW => ?_)
                                      obtain ⟨hk212, h⟩ := g_if h
                                      obtain ⟨q213, hq213, h⟩ := Option.bind_eq_some_iff.mp h
                                      refine h_callr hW (h_runV (As := [.ref (g_sa G (q211.1))]) (rest := []) C0 hW (hW.rf (h_ne hk212 (by decide))) (h_recv C0 hW (h_ne hk212 (by decide)) (h_c54 hk212) rfl) (c_l_J4_append_15ec4 hq213) cy_J4_append_15ec4 (by omega) tm_X14_45 ti_J4_append_15ec4 ts_J4_append_15ec4 rfl hl.1 rfl (Nat.le_of_ble_eq_true rfl) dX14_text_493) (fun H locs hW => ?_)
                                      refine h_SGN C0 hW tfN_X14_95 dX14_text_496 ?_
                                      refine h_aload_n C0.hx C0.hb dX14_text_499 rfl (lv_at hl 0 rfl) ?_
                                      obtain ⟨hk214, h⟩ := g_if h
                                      refine hf_X14_0 C0 hW hk214 tf_X14_7 dX14_text_500 ?_
                                      refine lv_bipush (v := (8 : Int32)) C0.hx C0.hb dX14_text_503 (by decide) ?_
                                      refine lv_isub C0.hx C0.hb dX14_text_505 ?_
                                      obtain ⟨hn215, h⟩ := g_if h
                                      refine h_SGat C0 hW hn215 dX14_text_506 ?_
                                      obtain ⟨hk216, h⟩ := g_if h
                                      obtain ⟨q217, hq217, h⟩ := Option.bind_eq_some_iff.mp h
                                      refine h_callr hW (h_runV (As := [.ref (g_sa G (84 + ((h_I q213.2 t 0) - (8 : Int32)).toNatClampNeg))]) (rest := []) C0 hW (hW.rf (h_ne hk216 (by decide))) (h_recv C0 hW (h_ne hk216 (by decide)) (h_c54 hk216) rfl) (c_l_J4_append_15ec4 hq217) cy_J4_append_15ec4 (by omega) tm_X14_45 ti_J4_append_15ec4 ts_J4_append_15ec4 rfl hl.1 rfl (Nat.le_of_ble_eq_true rfl) dX14_text_507) (fun H locs hW => ?_)
                                      refine h_aload_n C0.hx C0.hb dX14_text_510 rfl (lv_at hl 0 rfl) ?_
                                      obtain ⟨hk218, h⟩ := g_if h
                                      refine hf_X14_3 C0 hW hk218 tf_X14_20 dX14_text_511 ?_
                                      obtain ⟨hk219, h⟩ := g_if h
                                      obtain ⟨q220, hq220, h⟩ := Option.bind_eq_some_iff.mp h
                                      refine h_callr hW (h_runV (As := []) (rest := [g_rf G (q217.1)]) C0 hW (hW.rf (h_ne hk219 (by decide))) (h_recv C0 hW (h_ne hk219 (by decide)) (h_c51 hk219) rfl) (ihn _ _ _ hq220) cy_X14_text (by omega) tm_X14_66 ti_X14_text ts_X14_text rfl hl.1 rfl (by simp [g_catQ, h_ki, h_kr, h_kn, h_kl, h_kd]) dX14_text_514) (fun H locs hW => ?_)
                                      obtain ⟨hk221, h⟩ := g_if h
                                      obtain ⟨q222, hq222, h⟩ := Option.bind_eq_some_iff.mp h
                                      refine h_callr hW (h_runV (As := [.ref (g_sa G (q220.1))]) (rest := []) C0 hW (hW.rf (h_ne hk221 (by decide))) (h_recv C0 hW (h_ne hk221 (by decide)) (h_c54 hk221) rfl) (c_l_J4_append_15ec4 hq222) cy_J4_append_15ec4 (by omega) tm_X14_45 ti_J4_append_15ec4 ts_J4_append_15ec4 rfl hl.1 rfl (Nat.le_of_ble_eq_true rfl) dX14_text_517) (fun H locs hW => ?_)
                                      refine h_ldc C0 hW (n := 67) (List.mem_of_getElem? (i := 21) rfl) (by decide) dX14_text_520 ?_
                                      obtain ⟨hk223, h⟩ := g_if h
                                      obtain ⟨q224, hq224, h⟩ := Option.bind_eq_some_iff.mp h
                                      refine h_callr hW (h_runV (As := [.ref (g_sa G (67))]) (rest := []) C0 hW (hW.rf (h_ne hk223 (by decide))) (h_recv C0 hW (h_ne hk223 (by decide)) (h_c54 hk223) rfl) (c_l_J4_append_15ec4 hq224) cy_J4_append_15ec4 (by omega) tm_X14_45 ti_J4_append_15ec4 ts_J4_append_15ec4 rfl hl.1 rfl (Nat.le_of_ble_eq_true rfl) dX14_text_522) (fun H locs hW => ?_)
                                      obtain ⟨hk225, h⟩ := g_if h
                                      obtain ⟨q226, hq226, h⟩ := Option.bind_eq_some_iff.mp h
                                      refine h_callr hW (h_runV (As := []) (rest := []) C0 hW (hW.rf (h_ne hk225 (by decide))) (h_recv C0 hW (h_ne hk225 (by decide)) (h_c54 hk225) rfl) (c_l_J4_toString_0e30d hq226) cy_J4_toString_0e30d (by omega) tm_X14_52 ti_J4_toString_0e30d ts_J4_toString_0e30d rfl hl.1 rfl (Nat.le_of_ble_eq_true rfl) dX14_text_525) (fun H locs hW => ?_)
                                      refine lv_goto (tgt := 575) C0.hx C0.hb dX14_text_528 (by decide) ?_
                                      obtain rfl := Option.some.inj h
                                      exact h_aretC C0 hW rfl rfl dX14_text_575
                                  · replace h := (if_neg hc17).symm.trans h
                                    by_cases hc18 : (h_I y t 0) = (16 : Int32)
                                    · replace h := (if_pos hc18).symm.trans h
                                      refine lv_tableIn (tgt := 465) C0.hx C0.hb dX14_text_4 (by rw [hc18]; decide) (by rw [hc18]; decide) (by rw [hc18]; rfl) (by decide) ?_
                                      refine h_aload_n C0.hx C0.hb dX14_text_465 rfl (lv_at hl 0 rfl) ?_
                                      refine hf_X14_0 C0 hW hk1 tf_X14_7 dX14_text_466 ?_
                                      refine lv_bipush (v := (12 : Int32)) C0.hx C0.hb dX14_text_469 (by decide) ?_
                                      refine lv_icmp_ge (tgt := 531) C0.hx C0.hb dX14_text_471 (by decide) (fun hc141 => ?_) (fun hc141 => ?_)
                                      · replace h := (if_pos hc141).symm.trans h
                                        obtain ⟨hn142, h⟩ := g_if h
                                        refine hno_54 C0 hW hn142 tl_X14_40 dX14_text_531 (fun H hW => ?_)
                                        refine lv_dup C0.hx C0.hb dX14_text_534 g_catQ ?_
                                        obtain ⟨hk143, h⟩ := g_if h
                                        obtain ⟨q144, hq144, h⟩ := Option.bind_eq_some_iff.mp h
                                        refine h_callv hW (h_runI (As := []) (rest := [g_rf G (h_nx y)]) C0 hW (hW.rf (h_ne hk143 (by decide))) (c_l_J4_init_da8c8 hq144) cy_J4_init_da8c8 (by omega) tm_X14_42 ti_J4_init_da8c8 rfl rfl hl.1 rfl (by simp [g_catQ, h_ki, h_kr, h_kn, h_kl, h_kd]) dX14_text_535) (fun H locs hW => ?_)
                                        refine h_aload_n C0.hx C0.hb dX14_text_538 rfl (lv_at hl 0 rfl) ?_
                                        obtain ⟨hk145, h⟩ := g_if h
                                        refine hf_X14_2 C0 hW hk145 tf_X14_16 dX14_text_539 ?_
                                        obtain ⟨hk146, h⟩ := g_if h
                                        obtain ⟨q147, hq147, h⟩ := Option.bind_eq_some_iff.mp h
                                        refine h_callr hW (h_runV (As := []) (rest := [g_rf G (h_nx y)]) C0 hW (hW.rf (h_ne hk146 (by decide))) (h_recv C0 hW (h_ne hk146 (by decide)) (h_c51 hk146) rfl) (ihn _ _ _ hq147) cy_X14_text (by omega) tm_X14_66 ti_X14_text ts_X14_text rfl hl.1 rfl (by simp [g_catQ, h_ki, h_kr, h_kn, h_kl, h_kd]) dX14_text_542) (fun H locs hW => ?_)
                                        obtain ⟨hk148, h⟩ := g_if h
                                        obtain ⟨q149, hq149, h⟩ := Option.bind_eq_some_iff.mp h
                                        refine h_callr hW (h_runV (As := [.ref (g_sa G (q147.1))]) (rest := []) C0 hW (hW.rf (h_ne hk148 (by decide))) (h_recv C0 hW (h_ne hk148 (by decide)) (h_c54 hk148) rfl) (c_l_J4_append_15ec4 hq149) cy_J4_append_15ec4 (by omega) tm_X14_45 ti_J4_append_15ec4 ts_J4_append_15ec4 rfl hl.1 rfl (Nat.le_of_ble_eq_true rfl) dX14_text_545) (fun H locs hW => ?_)
                                        refine h_SGN C0 hW tfN_X14_95 dX14_text_548 ?_
                                        refine h_aload_n C0.hx C0.hb dX14_text_551 rfl (lv_at hl 0 rfl) ?_
                                        obtain ⟨hk150, h⟩ := g_if h
                                        refine hf_X14_0 C0 hW hk150 tf_X14_7 dX14_text_552 ?_
                                        refine lv_bipush (v := (8 : Int32)) C0.hx C0.hb dX14_text_555 (by decide) ?_
                                        refine lv_isub C0.hx C0.hb dX14_text_557 ?_
                                        obtain ⟨hn151, h⟩ := g_if h
                                        refine h_SGat C0 hW hn151 dX14_text_558 ?_
                                        obtain ⟨hk152, h⟩ := g_if h
                                        obtain ⟨q153, hq153, h⟩ := Option.bind_eq_some_iff.mp h
                                        refine h_callr hW (h_runV (As := [.ref (g_sa G (84 + ((h_I q149.2 t 0) - (8 : Int32)).toNatClampNeg))]) (rest := []) C0 hW (hW.rf (h_ne hk152 (by decide))) (h_recv C0 hW (h_ne hk152 (by decide)) (h_c54 hk152) rfl) (c_l_J4_append_15ec4 hq153) cy_J4_append_15ec4 (by omega) tm_X14_45 ti_J4_append_15ec4 ts_J4_append_15ec4 rfl hl.1 rfl (Nat.le_of_ble_eq_true rfl) dX14_text_559) (fun H locs hW => ?_)
                                        refine h_aload_n C0.hx C0.hb dX14_text_562 rfl (lv_at hl 0 rfl) ?_
                                        obtain ⟨hk154, h⟩ := g_if h
                                        refine hf_X14_3 C0 hW hk154 tf_X14_20 dX14_text_563 ?_
                                        obtain ⟨hk155, h⟩ := g_if h
                                        obtain ⟨q156, hq156, h⟩ := Option.bind_eq_some_iff.mp h
                                        refine h_callr hW (h_runV (As := []) (rest := [g_rf G (q153.1)]) C0 hW (hW.rf (h_ne hk155 (by decide))) (h_recv C0 hW (h_ne hk155 (by decide)) (h_c51 hk155) rfl) (ihn _ _ _ hq156) cy_X14_text (by omega) tm_X14_66 ti_X14_text ts_X14_text rfl hl.1 rfl (by simp [g_catQ, h_ki, h_kr, h_kn, h_kl, h_kd]) dX14_text_566) (fun H locs hW => ?_)
                                        obtain ⟨hk157, h⟩ := g_if h
                                        obtain ⟨q158, hq158, h⟩ := Option.bind_eq_some_iff.mp h
                                        refine h_callr hW (h_runV (As := [.ref (g_sa G (q156.1))]) (rest := []) C0 hW (hW.rf (h_ne hk157 (by decide))) (h_recv C0 hW (h_ne hk157 (by decide)) (h_c54 hk157) rfl) (c_l_J4_append_15ec4 hq158) cy_J4_append_15ec4 (by omega) tm_X14_45 ti_J4_append_15ec4 ts_J4_append_15ec4 rfl hl.1 rfl (Nat.le_of_ble_eq_true rfl) dX14_text_569) (fun H locs hW => ?_)
                                        obtain ⟨hk159, h⟩ := g_if h
                                        obtain ⟨q160, hq160, h⟩ := Option.bind_eq_some_iff.mp h
                                        refine h_callr hW (h_runV (As := []) (rest := []) C0 hW (hW.rf (h_ne hk159 (by decide))) (h_recv C0 hW (h_ne hk159 (by decide)) (h_c54 hk159) rfl) (c_l_J4_toString_0e30d hq160) cy_J4_toString_0e30d (by omega) tm_X14_52 ti_J4_toString_0e30d ts_J4_toString_0e30d rfl hl.1 rfl (Nat.le_of_ble_eq_true rfl) dX14_text_572) (fun H locs hW => ?_)
                                        obtain rfl := Option.some.inj h
                                        exact h_aretC C0 hW rfl rfl dX14_text_575
                                      · replace h := (if_neg hc141).symm.trans h
                                        obtain ⟨hn161, h⟩ := g_if h
                                        refine hno_54 C0 hW hn161 tl_X14_40 dX14_text_474 (fun H hW => ?_)
                                        refine lv_dup C0.hx C0.hb dX14_text_477 g_catQ ?_
                                        obtain ⟨hk162, h⟩ := g_if h
                                        obtain ⟨q163, hq163, h⟩ := Option.bind_eq_some_iff.mp h
                                        refine h_callv hW (h_runI (As := []) (rest := [g_rf G (h_nx y)]) C0 hW (hW.rf (h_ne hk162 (by decide))) (c_l_J4_init_da8c8 hq163) cy_J4_init_da8c8 (by omega) tm_X14_42 ti_J4_init_da8c8 rfl rfl hl.1 rfl (by simp [g_catQ, h_ki, h_kr, h_kn, h_kl, h_kd]) dX14_text_478) (fun H locs hW => ?_)
                                        refine h_ldc C0 hW (n := 77) (List.mem_of_getElem? (i := 31) rfl) (by decide) dX14_text_481 ?_
                                        obtain ⟨hk164, h⟩ := g_if h
                                        obtain ⟨q165, hq165, h⟩ := Option.bind_eq_some_iff.mp h
                                        refine h_callr hW (h_runV (As := [.ref (g_sa G (77))]) (rest := []) C0 hW (hW.rf (h_ne hk164 (by decide))) (h_recv C0 hW (h_ne hk164 (by decide)) (h_c54 hk164) rfl) (c_l_J4_append_15ec4 hq165) cy_J4_append_15ec4 (by omega) tm_X14_45 ti_J4_append_15ec4 ts_J4_append_15ec4 rfl hl.1 rfl (Nat.le_of_ble_eq_true rfl) dX14_text_483) (fun H locs hW => ?_)
                                        refine h_aload_n C0.hx C0.hb dX14_text_486 rfl (lv_at hl 0 rfl) ?_
                                        obtain ⟨hk166, h⟩ := g_if h
                                        refine hf_X14_2 C0 hW hk166 tf_X14_16 dX14_text_487 ?_
                                        obtain ⟨hk167, h⟩ := g_if h
                                        obtain ⟨q168, hq168, h⟩ := Option.bind_eq_some_iff.mp h
                                        refine h_callr hW (h_runV (As := []) (rest := [g_rf G (q165.1)]) C0 hW (hW.rf (h_ne hk167 (by decide))) (h_recv C0 hW (h_ne hk167 (by decide)) (h_c51 hk167) rfl) (ihn _ _ _ hq168) cy_X14_text (by omega) tm_X14_66 ti_X14_text ts_X14_text rfl hl.1 rfl (by simp [g_catQ, h_ki, h_kr, h_kn, h_kl, h_kd]) dX14_text_490) (fun H locs hW => ?_)
                                        obtain ⟨hk169, h⟩ := g_if h
                                        obtain ⟨q170, hq170, h⟩ := Option.bind_eq_some_iff.mp h
                                        refine h_callr hW (h_runV (As := [.ref (g_sa G (q168.1))]) (rest := []) C0 hW (hW.rf (h_ne hk169 (by decide))) (h_recv C0 hW (h_ne hk169 (by decide)) (h_c54 hk169) rfl) (c_l_J4_append_15ec4 hq170) cy_J4_append_15ec4 (by omega) tm_X14_45 ti_J4_append_15ec4 ts_J4_append_15ec4 rfl hl.1 rfl (Nat.le_of_ble_eq_true rfl) dX14_text_493) (fun H locs hW => ?_)
                                        refine h_SGN C0 hW tfN_X14_95 dX14_text_496 ?_
                                        refine h_aload_n C0.hx C0.hb dX14_text_499 rfl (lv_at hl 0 rfl) ?_
                                        obtain ⟨hk171, h⟩ := g_if h
                                        refine hf_X14_0 C0 hW hk171 tf_X14_7 dX14_text_500 ?_
                                        refine lv_bipush (v := (8 : Int32)) C0.hx C0.hb dX14_text_503 (by decide) ?_
                                        refine lv_isub C0.hx C0.hb dX14_text_505 ?_
                                        obtain ⟨hn172, h⟩ := g_if h
                                        refine h_SGat C0 hW hn172 dX14_text_506 ?_
                                        obtain ⟨hk173, h⟩ := g_if h
                                        obtain ⟨q174, hq174, h⟩ := Option.bind_eq_some_iff.mp h
                                        refine h_callr hW (h_runV (As := [.ref (g_sa G (84 + ((h_I q170.2 t 0) - (8 : Int32)).toNatClampNeg))]) (rest := []) C0 hW (hW.rf (h_ne hk173 (by decide))) (h_recv C0 hW (h_ne hk173 (by decide)) (h_c54 hk173) rfl) (c_l_J4_append_15ec4 hq174) cy_J4_append_15ec4 (by omega) tm_X14_45 ti_J4_append_15ec4 ts_J4_append_15ec4 rfl hl.1 rfl (Nat.le_of_ble_eq_true rfl) dX14_text_507) (fun H locs hW => ?_)
                                        refine h_aload_n C0.hx C0.hb dX14_text_510 rfl (lv_at hl 0 rfl) ?_
                                        obtain ⟨hk175, h⟩ := g_if h
                                        refine hf_X14_3 C0 hW hk175 tf_X14_20 dX14_text_511 ?_
                                        obtain ⟨hk176, h⟩ := g_if h
                                        obtain ⟨q177, hq177, h⟩ := Option.bind_eq_some_iff.mp h
                                        refine h_callr hW (h_runV (As := []) (rest := [g_rf G (q174.1)]) C0 hW (hW.rf (h_ne hk176 (by decide))) (h_recv C0 hW (h_ne hk176 (by decide)) (h_c51 hk176) rfl) (ihn _ _ _ hq177) cy_X14_text (by omega) tm_X14_66 ti_X14_text ts_X14_text rfl hl.1 rfl (by simp [g_catQ, h_ki, h_kr, h_kn, h_kl, h_kd]) dX14_text_514) (fun H locs hW => ?_)
                                        obtain ⟨hk178, h⟩ := g_if h
                                        obtain ⟨q179, hq179, h⟩ := Option.bind_eq_some_iff.mp h
                                        refine h_callr hW (h_runV (As := [.ref (g_sa G (q177.1))]) (rest := []) C0 hW (hW.rf (h_ne hk178 (by decide))) (h_recv C0 hW (h_ne hk178 (by decide)) (h_c54 hk178) rfl) (c_l_J4_append_15ec4 hq179) cy_J4_append_15ec4 (by omega) tm_X14_45 ti_J4_append_15ec4 ts_J4_append_15ec4 rfl hl.1 rfl (Nat.le_of_ble_eq_true rfl) dX14_text_517) (fun H locs hW => ?_)
                                        refine h_ldc C0 hW (n := 67) (List.mem_of_getElem? (i := 21) rfl) (by decide) dX14_text_520 ?_
                                        obtain ⟨hk180, h⟩ := g_if h
                                        obtain ⟨q181, hq181, h⟩ := Option.bind_eq_some_iff.mp h
                                        refine h_callr hW (h_runV (As := [.ref (g_sa G (67))]) (rest := []) C0 hW (hW.rf (h_ne hk180 (by decide))) (h_recv C0 hW (h_ne hk180 (by decide)) (h_c54 hk180) rfl) (c_l_J4_append_15ec4 hq181) cy_J4_append_15ec4 (by omega) tm_X14_45 ti_J4_append_15ec4 ts_J4_append_15ec4 rfl hl.1 rfl (Nat.le_of_ble_eq_true rfl) dX14_text_522) (fun H locs hW => ?_)
                                        obtain ⟨hk182, h⟩ := g_if h
                                        obtain ⟨q183, hq183, h⟩ := Option.bind_eq_some_iff.mp h
                                        refine h_callr hW (h_runV (As := []) (rest := []) C0 hW (hW.rf (h_ne hk182 (by decide))) (h_recv C0 hW (h_ne hk182 (by decide)) (h_c54 hk182) rfl) (c_l_J4_toString_0e30d hq183) cy_J4_toString_0e30d (by omega) tm_X14_52 ti_J4_toString_0e30d ts_J4_toString_0e30d rfl hl.1 rfl (Nat.le_of_ble_eq_true rfl) dX14_text_525) (fun H locs hW => ?_)
                                        refine lv_goto (tgt := 575) C0.hx C0.hb dX14_text_528 (by decide) ?_
                                        obtain rfl := Option.some.inj h
                                        exact h_aretC C0 hW rfl rfl dX14_text_575
                                    · replace h := (if_neg hc18).symm.trans h
                                      by_cases hc19 : (h_I y t 0) = (17 : Int32)
                                      · replace h := (if_pos hc19).symm.trans h
                                        refine lv_tableIn (tgt := 301) C0.hx C0.hb dX14_text_4 (by rw [hc19]; decide) (by rw [hc19]; decide) (by rw [hc19]; rfl) (by decide) ?_
                                        obtain ⟨hn131, h⟩ := g_if h
                                        refine hno_54 C0 hW hn131 tl_X14_40 dX14_text_301 (fun H hW => ?_)
                                        refine lv_dup C0.hx C0.hb dX14_text_304 g_catQ ?_
                                        obtain ⟨hk132, h⟩ := g_if h
                                        obtain ⟨q133, hq133, h⟩ := Option.bind_eq_some_iff.mp h
                                        refine h_callv hW (h_runI (As := []) (rest := [g_rf G (h_nx y)]) C0 hW (hW.rf (h_ne hk132 (by decide))) (c_l_J4_init_da8c8 hq133) cy_J4_init_da8c8 (by omega) tm_X14_42 ti_J4_init_da8c8 rfl rfl hl.1 rfl (by simp [g_catQ, h_ki, h_kr, h_kn, h_kl, h_kd]) dX14_text_305) (fun H locs hW => ?_)
                                        refine h_ldc C0 hW (n := 70) (List.mem_of_getElem? (i := 24) rfl) (by decide) dX14_text_308 ?_
                                        obtain ⟨hk134, h⟩ := g_if h
                                        obtain ⟨q135, hq135, h⟩ := Option.bind_eq_some_iff.mp h
                                        refine h_callr hW (h_runV (As := [.ref (g_sa G (70))]) (rest := []) C0 hW (hW.rf (h_ne hk134 (by decide))) (h_recv C0 hW (h_ne hk134 (by decide)) (h_c54 hk134) rfl) (c_l_J4_append_15ec4 hq135) cy_J4_append_15ec4 (by omega) tm_X14_45 ti_J4_append_15ec4 ts_J4_append_15ec4 rfl hl.1 rfl (Nat.le_of_ble_eq_true rfl) dX14_text_310) (fun H locs hW => ?_)
                                        refine h_aload_n C0.hx C0.hb dX14_text_313 rfl (lv_at hl 0 rfl) ?_
                                        obtain ⟨hk136, h⟩ := g_if h
                                        refine hf_X14_1 C0 hW hk136 tf_X14_13 dX14_text_314 ?_
                                        obtain ⟨hk137, h⟩ := g_if h
                                        obtain ⟨q138, hq138, h⟩ := Option.bind_eq_some_iff.mp h
                                        refine h_callr hW (h_runV (As := [.int (h_I q135.2 t 1)]) (rest := []) C0 hW (hW.rf (h_ne hk137 (by decide))) (h_recv C0 hW (h_ne hk137 (by decide)) (h_c54 hk137) rfl) (c_l_J4_append_bf812 hq138) cy_J4_append_bf812 (by omega) tm_X14_49 ti_J4_append_bf812 ts_J4_append_bf812 rfl hl.1 rfl (Nat.le_of_ble_eq_true rfl) dX14_text_317) (fun H locs hW => ?_)
                                        obtain ⟨hk139, h⟩ := g_if h
                                        obtain ⟨q140, hq140, h⟩ := Option.bind_eq_some_iff.mp h
                                        refine h_callr hW (h_runV (As := []) (rest := []) C0 hW (hW.rf (h_ne hk139 (by decide))) (h_recv C0 hW (h_ne hk139 (by decide)) (h_c54 hk139) rfl) (c_l_J4_toString_0e30d hq140) cy_J4_toString_0e30d (by omega) tm_X14_52 ti_J4_toString_0e30d ts_J4_toString_0e30d rfl hl.1 rfl (Nat.le_of_ble_eq_true rfl) dX14_text_320) (fun H locs hW => ?_)
                                        obtain rfl := Option.some.inj h
                                        exact h_aretC C0 hW rfl rfl dX14_text_323
                                      · replace h := (if_neg hc19).symm.trans h
                                        by_cases hc20 : (h_I y t 0) = (18 : Int32)
                                        · replace h := (if_pos hc20).symm.trans h
                                          refine lv_tableIn (tgt := 324) C0.hx C0.hb dX14_text_4 (by rw [hc20]; decide) (by rw [hc20]; decide) (by rw [hc20]; rfl) (by decide) ?_
                                          obtain ⟨hn121, h⟩ := g_if h
                                          refine hno_54 C0 hW hn121 tl_X14_40 dX14_text_324 (fun H hW => ?_)
                                          refine lv_dup C0.hx C0.hb dX14_text_327 g_catQ ?_
                                          obtain ⟨hk122, h⟩ := g_if h
                                          obtain ⟨q123, hq123, h⟩ := Option.bind_eq_some_iff.mp h
                                          refine h_callv hW (h_runI (As := []) (rest := [g_rf G (h_nx y)]) C0 hW (hW.rf (h_ne hk122 (by decide))) (c_l_J4_init_da8c8 hq123) cy_J4_init_da8c8 (by omega) tm_X14_42 ti_J4_init_da8c8 rfl rfl hl.1 rfl (by simp [g_catQ, h_ki, h_kr, h_kn, h_kl, h_kd]) dX14_text_328) (fun H locs hW => ?_)
                                          refine h_ldc C0 hW (n := 71) (List.mem_of_getElem? (i := 25) rfl) (by decide) dX14_text_331 ?_
                                          obtain ⟨hk124, h⟩ := g_if h
                                          obtain ⟨q125, hq125, h⟩ := Option.bind_eq_some_iff.mp h
                                          refine h_callr hW (h_runV (As := [.ref (g_sa G (71))]) (rest := []) C0 hW (hW.rf (h_ne hk124 (by decide))) (h_recv C0 hW (h_ne hk124 (by decide)) (h_c54 hk124) rfl) (c_l_J4_append_15ec4 hq125) cy_J4_append_15ec4 (by omega) tm_X14_45 ti_J4_append_15ec4 ts_J4_append_15ec4 rfl hl.1 rfl (Nat.le_of_ble_eq_true rfl) dX14_text_333) (fun H locs hW => ?_)
                                          refine h_aload_n C0.hx C0.hb dX14_text_336 rfl (lv_at hl 0 rfl) ?_
                                          obtain ⟨hk126, h⟩ := g_if h
                                          refine hf_X14_1 C0 hW hk126 tf_X14_13 dX14_text_337 ?_
                                          obtain ⟨hk127, h⟩ := g_if h
                                          obtain ⟨q128, hq128, h⟩ := Option.bind_eq_some_iff.mp h
                                          refine h_callr hW (h_runV (As := [.int (h_I q125.2 t 1)]) (rest := []) C0 hW (hW.rf (h_ne hk127 (by decide))) (h_recv C0 hW (h_ne hk127 (by decide)) (h_c54 hk127) rfl) (c_l_J4_append_bf812 hq128) cy_J4_append_bf812 (by omega) tm_X14_49 ti_J4_append_bf812 ts_J4_append_bf812 rfl hl.1 rfl (Nat.le_of_ble_eq_true rfl) dX14_text_340) (fun H locs hW => ?_)
                                          obtain ⟨hk129, h⟩ := g_if h
                                          obtain ⟨q130, hq130, h⟩ := Option.bind_eq_some_iff.mp h
                                          refine h_callr hW (h_runV (As := []) (rest := []) C0 hW (hW.rf (h_ne hk129 (by decide))) (h_recv C0 hW (h_ne hk129 (by decide)) (h_c54 hk129) rfl) (c_l_J4_toString_0e30d hq130) cy_J4_toString_0e30d (by omega) tm_X14_52 ti_J4_toString_0e30d ts_J4_toString_0e30d rfl hl.1 rfl (Nat.le_of_ble_eq_true rfl) dX14_text_343) (fun H locs hW => ?_)
                                          obtain rfl := Option.some.inj h
                                          exact h_aretC C0 hW rfl rfl dX14_text_346
                                        · replace h := (if_neg hc20).symm.trans h
                                          by_cases hc21 : (h_I y t 0) = (19 : Int32)
                                          · replace h := (if_pos hc21).symm.trans h
                                            refine lv_tableIn (tgt := 347) C0.hx C0.hb dX14_text_4 (by rw [hc21]; decide) (by rw [hc21]; decide) (by rw [hc21]; rfl) (by decide) ?_
                                            obtain ⟨hn109, h⟩ := g_if h
                                            refine hno_54 C0 hW hn109 tl_X14_40 dX14_text_347 (fun H hW => ?_)
                                            refine lv_dup C0.hx C0.hb dX14_text_350 g_catQ ?_
                                            obtain ⟨hk110, h⟩ := g_if h
                                            obtain ⟨q111, hq111, h⟩ := Option.bind_eq_some_iff.mp h
                                            refine h_callv hW (h_runI (As := []) (rest := [g_rf G (h_nx y)]) C0 hW (hW.rf (h_ne hk110 (by decide))) (c_l_J4_init_da8c8 hq111) cy_J4_init_da8c8 (by omega) tm_X14_42 ti_J4_init_da8c8 rfl rfl hl.1 rfl (by simp [g_catQ, h_ki, h_kr, h_kn, h_kl, h_kd]) dX14_text_351) (fun H locs hW => ?_)
                                            refine h_ldc C0 hW (n := 72) (List.mem_of_getElem? (i := 26) rfl) (by decide) dX14_text_354 ?_
                                            obtain ⟨hk112, h⟩ := g_if h
                                            obtain ⟨q113, hq113, h⟩ := Option.bind_eq_some_iff.mp h
                                            refine h_callr hW (h_runV (As := [.ref (g_sa G (72))]) (rest := []) C0 hW (hW.rf (h_ne hk112 (by decide))) (h_recv C0 hW (h_ne hk112 (by decide)) (h_c54 hk112) rfl) (c_l_J4_append_15ec4 hq113) cy_J4_append_15ec4 (by omega) tm_X14_45 ti_J4_append_15ec4 ts_J4_append_15ec4 rfl hl.1 rfl (Nat.le_of_ble_eq_true rfl) dX14_text_356) (fun H locs hW => ?_)
                                            refine h_aload_n C0.hx C0.hb dX14_text_359 rfl (lv_at hl 0 rfl) ?_
                                            obtain ⟨hk114, h⟩ := g_if h
                                            refine hf_X14_2 C0 hW hk114 tf_X14_16 dX14_text_360 ?_
                                            obtain ⟨hk115, h⟩ := g_if h
                                            obtain ⟨q116, hq116, h⟩ := Option.bind_eq_some_iff.mp h
                                            refine h_callr hW (h_runV (As := []) (rest := [g_rf G (q113.1)]) C0 hW (hW.rf (h_ne hk115 (by decide))) (h_recv C0 hW (h_ne hk115 (by decide)) (h_c51 hk115) rfl) (ihn _ _ _ hq116) cy_X14_text (by omega) tm_X14_66 ti_X14_text ts_X14_text rfl hl.1 rfl (by simp [g_catQ, h_ki, h_kr, h_kn, h_kl, h_kd]) dX14_text_363) (fun H locs hW => ?_)
                                            obtain ⟨hk117, h⟩ := g_if h
                                            obtain ⟨q118, hq118, h⟩ := Option.bind_eq_some_iff.mp h
                                            refine h_callr hW (h_runV (As := [.ref (g_sa G (q116.1))]) (rest := []) C0 hW (hW.rf (h_ne hk117 (by decide))) (h_recv C0 hW (h_ne hk117 (by decide)) (h_c54 hk117) rfl) (c_l_J4_append_15ec4 hq118) cy_J4_append_15ec4 (by omega) tm_X14_45 ti_J4_append_15ec4 ts_J4_append_15ec4 rfl hl.1 rfl (Nat.le_of_ble_eq_true rfl) dX14_text_366) (fun H locs hW => ?_)
                                            obtain ⟨hk119, h⟩ := g_if h
                                            obtain ⟨q120, hq120, h⟩ := Option.bind_eq_some_iff.mp h
                                            refine h_callr hW (h_runV (As := []) (rest := []) C0 hW (hW.rf (h_ne hk119 (by decide))) (h_recv C0 hW (h_ne hk119 (by decide)) (h_c54 hk119) rfl) (c_l_J4_toString_0e30d hq120) cy_J4_toString_0e30d (by omega) tm_X14_52 ti_J4_toString_0e30d ts_J4_toString_0e30d rfl hl.1 rfl (Nat.le_of_ble_eq_true rfl) dX14_text_369) (fun H locs hW => ?_)
                                            obtain rfl := Option.some.inj h
                                            exact h_aretC C0 hW rfl rfl dX14_text_372
                                          · replace h := (if_neg hc21).symm.trans h
                                            by_cases hc22 : (h_I y t 0) = (20 : Int32)
                                            · replace h := (if_pos hc22).symm.trans h
                                              refine lv_tableIn (tgt := 373) C0.hx C0.hb dX14_text_4 (by rw [hc22]; decide) (by rw [hc22]; decide) (by rw [hc22]; rfl) (by decide) ?_
                                              obtain ⟨hn88, h⟩ := g_if h
                                              refine hno_54 C0 hW hn88 tl_X14_40 dX14_text_373 (fun H hW => ?_)
                                              refine lv_dup C0.hx C0.hb dX14_text_376 g_catQ ?_
                                              obtain ⟨hk89, h⟩ := g_if h
                                              obtain ⟨q90, hq90, h⟩ := Option.bind_eq_some_iff.mp h
                                              refine h_callv hW (h_runI (As := []) (rest := [g_rf G (h_nx y)]) C0 hW (hW.rf (h_ne hk89 (by decide))) (c_l_J4_init_da8c8 hq90) cy_J4_init_da8c8 (by omega) tm_X14_42 ti_J4_init_da8c8 rfl rfl hl.1 rfl (by simp [g_catQ, h_ki, h_kr, h_kn, h_kl, h_kd]) dX14_text_377) (fun H locs hW => ?_)
                                              refine h_ldc C0 hW (n := 73) (List.mem_of_getElem? (i := 27) rfl) (by decide) dX14_text_380 ?_
                                              obtain ⟨hk91, h⟩ := g_if h
                                              obtain ⟨q92, hq92, h⟩ := Option.bind_eq_some_iff.mp h
                                              refine h_callr hW (h_runV (As := [.ref (g_sa G (73))]) (rest := []) C0 hW (hW.rf (h_ne hk91 (by decide))) (h_recv C0 hW (h_ne hk91 (by decide)) (h_c54 hk91) rfl) (c_l_J4_append_15ec4 hq92) cy_J4_append_15ec4 (by omega) tm_X14_45 ti_J4_append_15ec4 ts_J4_append_15ec4 rfl hl.1 rfl (Nat.le_of_ble_eq_true rfl) dX14_text_382) (fun H locs hW => ?_)
                                              refine h_aload_n C0.hx C0.hb dX14_text_385 rfl (lv_at hl 0 rfl) ?_
                                              obtain ⟨hk93, h⟩ := g_if h
                                              refine hf_X14_2 C0 hW hk93 tf_X14_16 dX14_text_386 ?_
                                              obtain ⟨hk94, h⟩ := g_if h
                                              obtain ⟨q95, hq95, h⟩ := Option.bind_eq_some_iff.mp h
                                              refine h_callr hW (h_runV (As := []) (rest := [g_rf G (q92.1)]) C0 hW (hW.rf (h_ne hk94 (by decide))) (h_recv C0 hW (h_ne hk94 (by decide)) (h_c51 hk94) rfl) (ihn _ _ _ hq95) cy_X14_text (by omega) tm_X14_66 ti_X14_text ts_X14_text rfl hl.1 rfl (by simp [g_catQ, h_ki, h_kr, h_kn, h_kl, h_kd]) dX14_text_389) (fun H locs hW => ?_)
                                              obtain ⟨hk96, h⟩ := g_if h
                                              obtain ⟨q97, hq97, h⟩ := Option.bind_eq_some_iff.mp h
                                              refine h_callr hW (h_runV (As := [.ref (g_sa G (q95.1))]) (rest := []) C0 hW (hW.rf (h_ne hk96 (by decide))) (h_recv C0 hW (h_ne hk96 (by decide)) (h_c54 hk96) rfl) (c_l_J4_append_15ec4 hq97) cy_J4_append_15ec4 (by omega) tm_X14_45 ti_J4_append_15ec4 ts_J4_append_15ec4 rfl hl.1 rfl (Nat.le_of_ble_eq_true rfl) dX14_text_392) (fun H locs hW => ?_)
                                              refine h_ldc C0 hW (n := 74) (List.mem_of_getElem? (i := 28) rfl) (by decide) dX14_text_395 ?_
                                              obtain ⟨hk98, h⟩ := g_if h
                                              obtain ⟨q99, hq99, h⟩ := Option.bind_eq_some_iff.mp h
                                              refine h_callr hW (h_runV (As := [.ref (g_sa G (74))]) (rest := []) C0 hW (hW.rf (h_ne hk98 (by decide))) (h_recv C0 hW (h_ne hk98 (by decide)) (h_c54 hk98) rfl) (c_l_J4_append_15ec4 hq99) cy_J4_append_15ec4 (by omega) tm_X14_45 ti_J4_append_15ec4 ts_J4_append_15ec4 rfl hl.1 rfl (Nat.le_of_ble_eq_true rfl) dX14_text_397) (fun H locs hW => ?_)
                                              refine h_aload_n C0.hx C0.hb dX14_text_400 rfl (lv_at hl 0 rfl) ?_
                                              obtain ⟨hk100, h⟩ := g_if h
                                              refine hf_X14_3 C0 hW hk100 tf_X14_20 dX14_text_401 ?_
                                              obtain ⟨hk101, h⟩ := g_if h
                                              obtain ⟨q102, hq102, h⟩ := Option.bind_eq_some_iff.mp h
                                              refine h_callr hW (h_runV (As := []) (rest := [g_rf G (q99.1)]) C0 hW (hW.rf (h_ne hk101 (by decide))) (h_recv C0 hW (h_ne hk101 (by decide)) (h_c51 hk101) rfl) (ihn _ _ _ hq102) cy_X14_text (by omega) tm_X14_66 ti_X14_text ts_X14_text rfl hl.1 rfl (by simp [g_catQ, h_ki, h_kr, h_kn, h_kl, h_kd]) dX14_text_404) (fun H locs hW => ?_)
                                              obtain ⟨hk103, h⟩ := g_if h
                                              obtain ⟨q104, hq104, h⟩ := Option.bind_eq_some_iff.mp h
                                              refine h_callr hW (h_runV (As := [.ref (g_sa G (q102.1))]) (rest := []) C0 hW (hW.rf (h_ne hk103 (by decide))) (h_recv C0 hW (h_ne hk103 (by decide)) (h_c54 hk103) rfl) (c_l_J4_append_15ec4 hq104) cy_J4_append_15ec4 (by omega) tm_X14_45 ti_J4_append_15ec4 ts_J4_append_15ec4 rfl hl.1 rfl (Nat.le_of_ble_eq_true rfl) dX14_text_407) (fun H locs hW => ?_)
                                              refine h_ldc C0 hW (n := 75) (List.mem_of_getElem? (i := 29) rfl) (by decide) dX14_text_410 ?_
                                              obtain ⟨hk105, h⟩ := g_if h
                                              obtain ⟨q106, hq106, h⟩ := Option.bind_eq_some_iff.mp h
                                              refine h_callr hW (h_runV (As := [.ref (g_sa G (75))]) (rest := []) C0 hW (hW.rf (h_ne hk105 (by decide))) (h_recv C0 hW (h_ne hk105 (by decide)) (h_c54 hk105) rfl) (c_l_J4_append_15ec4 hq106) cy_J4_append_15ec4 (by omega) tm_X14_45 ti_J4_append_15ec4 ts_J4_append_15ec4 rfl hl.1 rfl (Nat.le_of_ble_eq_true rfl) dX14_text_412) (fun H locs hW => ?_)
                                              obtain ⟨hk107, h⟩ := g_if h
                                              obtain ⟨q108, hq108, h⟩ := Option.bind_eq_some_iff.mp h
                                              refine h_callr hW (h_runV (As := []) (rest := []) C0 hW (hW.rf (h_ne hk107 (by decide))) (h_recv C0 hW (h_ne hk107 (by decide)) (h_c54 hk107) rfl) (c_l_J4_toString_0e30d hq108) cy_J4_toString_0e30d (by omega) tm_X14_52 ti_J4_toString_0e30d ts_J4_toString_0e30d rfl hl.1 rfl (Nat.le_of_ble_eq_true rfl) dX14_text_415) (fun H locs hW => ?_)
                                              obtain rfl := Option.some.inj h
                                              exact h_aretC C0 hW rfl rfl dX14_text_418
                                            · replace h := (if_neg hc22).symm.trans h
                                              by_cases hc23 : (h_I y t 0) = (21 : Int32)
                                              · replace h := (if_pos hc23).symm.trans h
                                                refine lv_tableIn (tgt := 419) C0.hx C0.hb dX14_text_4 (by rw [hc23]; decide) (by rw [hc23]; decide) (by rw [hc23]; rfl) (by decide) ?_
                                                obtain ⟨hn67, h⟩ := g_if h
                                                refine hno_54 C0 hW hn67 tl_X14_40 dX14_text_419 (fun H hW => ?_)
                                                refine lv_dup C0.hx C0.hb dX14_text_422 g_catQ ?_
                                                obtain ⟨hk68, h⟩ := g_if h
                                                obtain ⟨q69, hq69, h⟩ := Option.bind_eq_some_iff.mp h
                                                refine h_callv hW (h_runI (As := []) (rest := [g_rf G (h_nx y)]) C0 hW (hW.rf (h_ne hk68 (by decide))) (c_l_J4_init_da8c8 hq69) cy_J4_init_da8c8 (by omega) tm_X14_42 ti_J4_init_da8c8 rfl rfl hl.1 rfl (by simp [g_catQ, h_ki, h_kr, h_kn, h_kl, h_kd]) dX14_text_423) (fun H locs hW => ?_)
                                                refine h_ldc C0 hW (n := 73) (List.mem_of_getElem? (i := 27) rfl) (by decide) dX14_text_426 ?_
                                                obtain ⟨hk70, h⟩ := g_if h
                                                obtain ⟨q71, hq71, h⟩ := Option.bind_eq_some_iff.mp h
                                                refine h_callr hW (h_runV (As := [.ref (g_sa G (73))]) (rest := []) C0 hW (hW.rf (h_ne hk70 (by decide))) (h_recv C0 hW (h_ne hk70 (by decide)) (h_c54 hk70) rfl) (c_l_J4_append_15ec4 hq71) cy_J4_append_15ec4 (by omega) tm_X14_45 ti_J4_append_15ec4 ts_J4_append_15ec4 rfl hl.1 rfl (Nat.le_of_ble_eq_true rfl) dX14_text_428) (fun H locs hW => ?_)
                                                refine h_aload_n C0.hx C0.hb dX14_text_431 rfl (lv_at hl 0 rfl) ?_
                                                obtain ⟨hk72, h⟩ := g_if h
                                                refine hf_X14_2 C0 hW hk72 tf_X14_16 dX14_text_432 ?_
                                                obtain ⟨hk73, h⟩ := g_if h
                                                obtain ⟨q74, hq74, h⟩ := Option.bind_eq_some_iff.mp h
                                                refine h_callr hW (h_runV (As := []) (rest := [g_rf G (q71.1)]) C0 hW (hW.rf (h_ne hk73 (by decide))) (h_recv C0 hW (h_ne hk73 (by decide)) (h_c51 hk73) rfl) (ihn _ _ _ hq74) cy_X14_text (by omega) tm_X14_66 ti_X14_text ts_X14_text rfl hl.1 rfl (by simp [g_catQ, h_ki, h_kr, h_kn, h_kl, h_kd]) dX14_text_435) (fun H locs hW => ?_)
                                                obtain ⟨hk75, h⟩ := g_if h
                                                obtain ⟨q76, hq76, h⟩ := Option.bind_eq_some_iff.mp h
                                                refine h_callr hW (h_runV (As := [.ref (g_sa G (q74.1))]) (rest := []) C0 hW (hW.rf (h_ne hk75 (by decide))) (h_recv C0 hW (h_ne hk75 (by decide)) (h_c54 hk75) rfl) (c_l_J4_append_15ec4 hq76) cy_J4_append_15ec4 (by omega) tm_X14_45 ti_J4_append_15ec4 ts_J4_append_15ec4 rfl hl.1 rfl (Nat.le_of_ble_eq_true rfl) dX14_text_438) (fun H locs hW => ?_)
                                                refine h_ldc C0 hW (n := 76) (List.mem_of_getElem? (i := 30) rfl) (by decide) dX14_text_441 ?_
                                                obtain ⟨hk77, h⟩ := g_if h
                                                obtain ⟨q78, hq78, h⟩ := Option.bind_eq_some_iff.mp h
                                                refine h_callr hW (h_runV (As := [.ref (g_sa G (76))]) (rest := []) C0 hW (hW.rf (h_ne hk77 (by decide))) (h_recv C0 hW (h_ne hk77 (by decide)) (h_c54 hk77) rfl) (c_l_J4_append_15ec4 hq78) cy_J4_append_15ec4 (by omega) tm_X14_45 ti_J4_append_15ec4 ts_J4_append_15ec4 rfl hl.1 rfl (Nat.le_of_ble_eq_true rfl) dX14_text_443) (fun H locs hW => ?_)
                                                refine h_aload_n C0.hx C0.hb dX14_text_446 rfl (lv_at hl 0 rfl) ?_
                                                obtain ⟨hk79, h⟩ := g_if h
                                                refine hf_X14_3 C0 hW hk79 tf_X14_20 dX14_text_447 ?_
                                                obtain ⟨hk80, h⟩ := g_if h
                                                obtain ⟨q81, hq81, h⟩ := Option.bind_eq_some_iff.mp h
                                                refine h_callr hW (h_runV (As := []) (rest := [g_rf G (q78.1)]) C0 hW (hW.rf (h_ne hk80 (by decide))) (h_recv C0 hW (h_ne hk80 (by decide)) (h_c51 hk80) rfl) (ihn _ _ _ hq81) cy_X14_text (by omega) tm_X14_66 ti_X14_text ts_X14_text rfl hl.1 rfl (by simp [g_catQ, h_ki, h_kr, h_kn, h_kl, h_kd]) dX14_text_450) (fun H locs hW => ?_)
                                                obtain ⟨hk82, h⟩ := g_if h
                                                obtain ⟨q83, hq83, h⟩ := Option.bind_eq_some_iff.mp h
                                                refine h_callr hW (h_runV (As := [.ref (g_sa G (q81.1))]) (rest := []) C0 hW (hW.rf (h_ne hk82 (by decide))) (h_recv C0 hW (h_ne hk82 (by decide)) (h_c54 hk82) rfl) (c_l_J4_append_15ec4 hq83) cy_J4_append_15ec4 (by omega) tm_X14_45 ti_J4_append_15ec4 ts_J4_append_15ec4 rfl hl.1 rfl (Nat.le_of_ble_eq_true rfl) dX14_text_453) (fun H locs hW => ?_)
                                                refine h_ldc C0 hW (n := 75) (List.mem_of_getElem? (i := 29) rfl) (by decide) dX14_text_456 ?_
                                                obtain ⟨hk84, h⟩ := g_if h
                                                obtain ⟨q85, hq85, h⟩ := Option.bind_eq_some_iff.mp h
                                                refine h_callr hW (h_runV (As := [.ref (g_sa G (75))]) (rest := []) C0 hW (hW.rf (h_ne hk84 (by decide))) (h_recv C0 hW (h_ne hk84 (by decide)) (h_c54 hk84) rfl) (c_l_J4_append_15ec4 hq85) cy_J4_append_15ec4 (by omega) tm_X14_45 ti_J4_append_15ec4 ts_J4_append_15ec4 rfl hl.1 rfl (Nat.le_of_ble_eq_true rfl) dX14_text_458) (fun H locs hW => ?_)
                                                obtain ⟨hk86, h⟩ := g_if h
                                                obtain ⟨q87, hq87, h⟩ := Option.bind_eq_some_iff.mp h
                                                refine h_callr hW (h_runV (As := []) (rest := []) C0 hW (hW.rf (h_ne hk86 (by decide))) (h_recv C0 hW (h_ne hk86 (by decide)) (h_c54 hk86) rfl) (c_l_J4_toString_0e30d hq87) cy_J4_toString_0e30d (by omega) tm_X14_52 ti_J4_toString_0e30d ts_J4_toString_0e30d rfl hl.1 rfl (Nat.le_of_ble_eq_true rfl) dX14_text_461) (fun H locs hW => ?_)
                                                obtain rfl := Option.some.inj h
                                                exact h_aretC C0 hW rfl rfl dX14_text_464
                                              · replace h := (if_neg hc23).symm.trans h
                                                refine lv_tableOut (tgt := 465) C0.hx C0.hb dX14_text_4 (g_sw_X14_text_4 hc2 hc3 hc4 hc5 hc6 hc7 hc8 hc9 hc10 hc11 hc12 hc13 hc14 hc15 hc16 hc17 hc18 hc19 hc20 hc21 hc22 hc23) (by decide) ?_
                                                refine h_aload_n C0.hx C0.hb dX14_text_465 rfl (lv_at hl 0 rfl) ?_
                                                refine hf_X14_0 C0 hW hk1 tf_X14_7 dX14_text_466 ?_
                                                refine lv_bipush (v := (12 : Int32)) C0.hx C0.hb dX14_text_469 (by decide) ?_
                                                refine lv_icmp_ge (tgt := 531) C0.hx C0.hb dX14_text_471 (by decide) (fun hc24 => ?_) (fun hc24 => ?_)
                                                · replace h := (if_pos hc24).symm.trans h
                                                  obtain ⟨hn25, h⟩ := g_if h
                                                  refine hno_54 C0 hW hn25 tl_X14_40 dX14_text_531 (fun H hW => ?_)
                                                  refine lv_dup C0.hx C0.hb dX14_text_534 g_catQ ?_
                                                  obtain ⟨hk26, h⟩ := g_if h
                                                  obtain ⟨q27, hq27, h⟩ := Option.bind_eq_some_iff.mp h
                                                  refine h_callv hW (h_runI (As := []) (rest := [g_rf G (h_nx y)]) C0 hW (hW.rf (h_ne hk26 (by decide))) (c_l_J4_init_da8c8 hq27) cy_J4_init_da8c8 (by omega) tm_X14_42 ti_J4_init_da8c8 rfl rfl hl.1 rfl (by simp [g_catQ, h_ki, h_kr, h_kn, h_kl, h_kd]) dX14_text_535) (fun H locs hW => ?_)
                                                  refine h_aload_n C0.hx C0.hb dX14_text_538 rfl (lv_at hl 0 rfl) ?_
                                                  obtain ⟨hk28, h⟩ := g_if h
                                                  refine hf_X14_2 C0 hW hk28 tf_X14_16 dX14_text_539 ?_
                                                  obtain ⟨hk29, h⟩ := g_if h
                                                  obtain ⟨q30, hq30, h⟩ := Option.bind_eq_some_iff.mp h
                                                  refine h_callr hW (h_runV (As := []) (rest := [g_rf G (h_nx y)]) C0 hW (hW.rf (h_ne hk29 (by decide))) (h_recv C0 hW (h_ne hk29 (by decide)) (h_c51 hk29) rfl) (ihn _ _ _ hq30) cy_X14_text (by omega) tm_X14_66 ti_X14_text ts_X14_text rfl hl.1 rfl (by simp [g_catQ, h_ki, h_kr, h_kn, h_kl, h_kd]) dX14_text_542) (fun H locs hW => ?_)
                                                  obtain ⟨hk31, h⟩ := g_if h
                                                  obtain ⟨q32, hq32, h⟩ := Option.bind_eq_some_iff.mp h
                                                  refine h_callr hW (h_runV (As := [.ref (g_sa G (q30.1))]) (rest := []) C0 hW (hW.rf (h_ne hk31 (by decide))) (h_recv C0 hW (h_ne hk31 (by decide)) (h_c54 hk31) rfl) (c_l_J4_append_15ec4 hq32) cy_J4_append_15ec4 (by omega) tm_X14_45 ti_J4_append_15ec4 ts_J4_append_15ec4 rfl hl.1 rfl (Nat.le_of_ble_eq_true rfl) dX14_text_545) (fun H locs hW => ?_)
                                                  refine h_SGN C0 hW tfN_X14_95 dX14_text_548 ?_
                                                  refine h_aload_n C0.hx C0.hb dX14_text_551 rfl (lv_at hl 0 rfl) ?_
                                                  obtain ⟨hk33, h⟩ := g_if h
                                                  refine hf_X14_0 C0 hW hk33 tf_X14_7 dX14_text_552 ?_
                                                  refine lv_bipush (v := (8 : Int32)) C0.hx C0.hb dX14_text_555 (by decide) ?_
                                                  refine lv_isub C0.hx C0.hb dX14_text_557 ?_
                                                  obtain ⟨hn34, h⟩ := g_if h
                                                  refine h_SGat C0 hW hn34 dX14_text_558 ?_
                                                  obtain ⟨hk35, h⟩ := g_if h
                                                  obtain ⟨q36, hq36, h⟩ := Option.bind_eq_some_iff.mp h
                                                  refine h_callr hW (h_runV (As := [.ref (g_sa G (84 + ((h_I q32.2 t 0) - (8 : Int32)).toNatClampNeg))]) (rest := []) C0 hW (hW.rf (h_ne hk35 (by decide))) (h_recv C0 hW (h_ne hk35 (by decide)) (h_c54 hk35) rfl) (c_l_J4_append_15ec4 hq36) cy_J4_append_15ec4 (by omega) tm_X14_45 ti_J4_append_15ec4 ts_J4_append_15ec4 rfl hl.1 rfl (Nat.le_of_ble_eq_true rfl) dX14_text_559) (fun H locs hW => ?_)
                                                  refine h_aload_n C0.hx C0.hb dX14_text_562 rfl (lv_at hl 0 rfl) ?_
                                                  obtain ⟨hk37, h⟩ := g_if h
                                                  refine hf_X14_3 C0 hW hk37 tf_X14_20 dX14_text_563 ?_
                                                  obtain ⟨hk38, h⟩ := g_if h
                                                  obtain ⟨q39, hq39, h⟩ := Option.bind_eq_some_iff.mp h
                                                  refine h_callr hW (h_runV (As := []) (rest := [g_rf G (q36.1)]) C0 hW (hW.rf (h_ne hk38 (by decide))) (h_recv C0 hW (h_ne hk38 (by decide)) (h_c51 hk38) rfl) (ihn _ _ _ hq39) cy_X14_text (by omega) tm_X14_66 ti_X14_text ts_X14_text rfl hl.1 rfl (by simp [g_catQ, h_ki, h_kr, h_kn, h_kl, h_kd]) dX14_text_566) (fun H locs hW => ?_)
                                                  obtain ⟨hk40, h⟩ := g_if h
                                                  obtain ⟨q41, hq41, h⟩ := Option.bind_eq_some_iff.mp h
                                                  refine h_callr hW (h_runV (As := [.ref (g_sa G (q39.1))]) (rest := []) C0 hW (hW.rf (h_ne hk40 (by decide))) (h_recv C0 hW (h_ne hk40 (by decide)) (h_c54 hk40) rfl) (c_l_J4_append_15ec4 hq41) cy_J4_append_15ec4 (by omega) tm_X14_45 ti_J4_append_15ec4 ts_J4_append_15ec4 rfl hl.1 rfl (Nat.le_of_ble_eq_true rfl) dX14_text_569) (fun H locs hW => ?_)
                                                  obtain ⟨hk42, h⟩ := g_if h
                                                  obtain ⟨q43, hq43, h⟩ := Option.bind_eq_some_iff.mp h
                                                  refine h_callr hW (h_runV (As := []) (rest := []) C0 hW (hW.rf (h_ne hk42 (by decide))) (h_recv C0 hW (h_ne hk42 (by decide)) (h_c54 hk42) rfl) (c_l_J4_toString_0e30d hq43) cy_J4_toString_0e30d (by omega) tm_X14_52 ti_J4_toString_0e30d ts_J4_toString_0e30d rfl hl.1 rfl (Nat.le_of_ble_eq_true rfl) dX14_text_572) (fun H locs hW => ?_)
                                                  obtain rfl := Option.some.inj h
                                                  exact h_aretC C0 hW rfl rfl dX14_text_575
                                                · replace h := (if_neg hc24).symm.trans h
                                                  obtain ⟨hn44, h⟩ := g_if h
                                                  refine hno_54 C0 hW hn44 tl_X14_40 dX14_text_474 (fun H hW => ?_)
                                                  refine lv_dup C0.hx C0.hb dX14_text_477 g_catQ ?_
                                                  obtain ⟨hk45, h⟩ := g_if h
                                                  obtain ⟨q46, hq46, h⟩ := Option.bind_eq_some_iff.mp h
                                                  refine h_callv hW (h_runI (As := []) (rest := [g_rf G (h_nx y)]) C0 hW (hW.rf (h_ne hk45 (by decide))) (c_l_J4_init_da8c8 hq46) cy_J4_init_da8c8 (by omega) tm_X14_42 ti_J4_init_da8c8 rfl rfl hl.1 rfl (by simp [g_catQ, h_ki, h_kr, h_kn, h_kl, h_kd]) dX14_text_478) (fun H locs hW => ?_)
                                                  refine h_ldc C0 hW (n := 77) (List.mem_of_getElem? (i := 31) rfl) (by decide) dX14_text_481 ?_
                                                  obtain ⟨hk47, h⟩ := g_if h
                                                  obtain ⟨q48, hq48, h⟩ := Option.bind_eq_some_iff.mp h
                                                  refine h_callr hW (h_runV (As := [.ref (g_sa G (77))]) (rest := []) C0 hW (hW.rf (h_ne hk47 (by decide))) (h_recv C0 hW (h_ne hk47 (by decide)) (h_c54 hk47) rfl) (c_l_J4_append_15ec4 hq48) cy_J4_append_15ec4 (by omega) tm_X14_45 ti_J4_append_15ec4 ts_J4_append_15ec4 rfl hl.1 rfl (Nat.le_of_ble_eq_true rfl) dX14_text_483) (fun H locs hW => ?_)
                                                  refine h_aload_n C0.hx C0.hb dX14_text_486 rfl (lv_at hl 0 rfl) ?_
                                                  obtain ⟨hk49, h⟩ := g_if h
                                                  refine hf_X14_2 C0 hW hk49 tf_X14_16 dX14_text_487 ?_
                                                  obtain ⟨hk50, h⟩ := g_if h
                                                  obtain ⟨q51, hq51, h⟩ := Option.bind_eq_some_iff.mp h
                                                  refine h_callr hW (h_runV (As := []) (rest := [g_rf G (q48.1)]) C0 hW (hW.rf (h_ne hk50 (by decide))) (h_recv C0 hW (h_ne hk50 (by decide)) (h_c51 hk50) rfl) (ihn _ _ _ hq51) cy_X14_text (by omega) tm_X14_66 ti_X14_text ts_X14_text rfl hl.1 rfl (by simp [g_catQ, h_ki, h_kr, h_kn, h_kl, h_kd]) dX14_text_490) (fun H locs hW => ?_)
                                                  obtain ⟨hk52, h⟩ := g_if h
                                                  obtain ⟨q53, hq53, h⟩ := Option.bind_eq_some_iff.mp h
                                                  refine h_callr hW (h_runV (As := [.ref (g_sa G (q51.1))]) (rest := []) C0 hW (hW.rf (h_ne hk52 (by decide))) (h_recv C0 hW (h_ne hk52 (by decide)) (h_c54 hk52) rfl) (c_l_J4_append_15ec4 hq53) cy_J4_append_15ec4 (by omega) tm_X14_45 ti_J4_append_15ec4 ts_J4_append_15ec4 rfl hl.1 rfl (Nat.le_of_ble_eq_true rfl) dX14_text_493) (fun H locs hW => ?_)
                                                  refine h_SGN C0 hW tfN_X14_95 dX14_text_496 ?_
                                                  refine h_aload_n C0.hx C0.hb dX14_text_499 rfl (lv_at hl 0 rfl) ?_
                                                  obtain ⟨hk54, h⟩ := g_if h
                                                  refine hf_X14_0 C0 hW hk54 tf_X14_7 dX14_text_500 ?_
                                                  refine lv_bipush (v := (8 : Int32)) C0.hx C0.hb dX14_text_503 (by decide) ?_
                                                  refine lv_isub C0.hx C0.hb dX14_text_505 ?_
                                                  obtain ⟨hn55, h⟩ := g_if h
                                                  refine h_SGat C0 hW hn55 dX14_text_506 ?_
                                                  obtain ⟨hk56, h⟩ := g_if h
                                                  obtain ⟨q57, hq57, h⟩ := Option.bind_eq_some_iff.mp h
                                                  refine h_callr hW (h_runV (As := [.ref (g_sa G (84 + ((h_I q53.2 t 0) - (8 : Int32)).toNatClampNeg))]) (rest := []) C0 hW (hW.rf (h_ne hk56 (by decide))) (h_recv C0 hW (h_ne hk56 (by decide)) (h_c54 hk56) rfl) (c_l_J4_append_15ec4 hq57) cy_J4_append_15ec4 (by omega) tm_X14_45 ti_J4_append_15ec4 ts_J4_append_15ec4 rfl hl.1 rfl (Nat.le_of_ble_eq_true rfl) dX14_text_507) (fun H locs hW => ?_)
                                                  refine h_aload_n C0.hx C0.hb dX14_text_510 rfl (lv_at hl 0 rfl) ?_
                                                  obtain ⟨hk58, h⟩ := g_if h
                                                  refine hf_X14_3 C0 hW hk58 tf_X14_20 dX14_text_511 ?_
                                                  obtain ⟨hk59, h⟩ := g_if h
                                                  obtain ⟨q60, hq60, h⟩ := Option.bind_eq_some_iff.mp h
                                                  refine h_callr hW (h_runV (As := []) (rest := [g_rf G (q57.1)]) C0 hW (hW.rf (h_ne hk59 (by decide))) (h_recv C0 hW (h_ne hk59 (by decide)) (h_c51 hk59) rfl) (ihn _ _ _ hq60) cy_X14_text (by omega) tm_X14_66 ti_X14_text ts_X14_text rfl hl.1 rfl (by simp [g_catQ, h_ki, h_kr, h_kn, h_kl, h_kd]) dX14_text_514) (fun H locs hW => ?_)
                                                  obtain ⟨hk61, h⟩ := g_if h
                                                  obtain ⟨q62, hq62, h⟩ := Option.bind_eq_some_iff.mp h
                                                  refine h_callr hW (h_runV (As := [.ref (g_sa G (q60.1))]) (rest := []) C0 hW (hW.rf (h_ne hk61 (by decide))) (h_recv C0 hW (h_ne hk61 (by decide)) (h_c54 hk61) rfl) (c_l_J4_append_15ec4 hq62) cy_J4_append_15ec4 (by omega) tm_X14_45 ti_J4_append_15ec4 ts_J4_append_15ec4 rfl hl.1 rfl (Nat.le_of_ble_eq_true rfl) dX14_text_517) (fun H locs hW => ?_)
                                                  refine h_ldc C0 hW (n := 67) (List.mem_of_getElem? (i := 21) rfl) (by decide) dX14_text_520 ?_
                                                  obtain ⟨hk63, h⟩ := g_if h
                                                  obtain ⟨q64, hq64, h⟩ := Option.bind_eq_some_iff.mp h
                                                  refine h_callr hW (h_runV (As := [.ref (g_sa G (67))]) (rest := []) C0 hW (hW.rf (h_ne hk63 (by decide))) (h_recv C0 hW (h_ne hk63 (by decide)) (h_c54 hk63) rfl) (c_l_J4_append_15ec4 hq64) cy_J4_append_15ec4 (by omega) tm_X14_45 ti_J4_append_15ec4 ts_J4_append_15ec4 rfl hl.1 rfl (Nat.le_of_ble_eq_true rfl) dX14_text_522) (fun H locs hW => ?_)
                                                  obtain ⟨hk65, h⟩ := g_if h
                                                  obtain ⟨q66, hq66, h⟩ := Option.bind_eq_some_iff.mp h
                                                  refine h_callr hW (h_runV (As := []) (rest := []) C0 hW (hW.rf (h_ne hk65 (by decide))) (h_recv C0 hW (h_ne hk65 (by decide)) (h_c54 hk65) rfl) (c_l_J4_toString_0e30d hq66) cy_J4_toString_0e30d (by omega) tm_X14_52 ti_J4_toString_0e30d ts_J4_toString_0e30d rfl hl.1 rfl (Nat.le_of_ble_eq_true rfl) dX14_text_525) (fun H locs hW => ?_)
                                                  refine lv_goto (tgt := 575) C0.hx C0.hb dX14_text_528 (by decide) ?_
                                                  obtain rfl := Option.some.inj h
                                                  exact h_aretC C0 hW rfl rfl dX14_text_575
