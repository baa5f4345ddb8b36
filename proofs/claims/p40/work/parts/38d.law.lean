set_option maxRecDepth 100000 in
set_option maxHeartbeats 4000000 in
theorem c_l_X14_both {l : Launch} {G : GL} {o : Nat → Int32} {x : CS} {y : MS} {p1 : Int32} {p2 : Int32} {p3 : Int32} {q : Int32} (h : f_l_X14_both p1 p2 p3 = some q) : Met l yX14_both (.code yX14_both cX14_both 3 (Option.some Jvm.ClassFile.FieldType.int) :: gT) (h_lv 1 y) (va_Pc [.int (p1), .int (p2), .int (p3)] (h_P G (x, y, o))) (h_Qi G y q (x, y, o)) (h_nx y - h_nx y) (h_sl y - h_sl y) (g_A G) := by
  unfold f_l_X14_both at h
  refine h_entry (by decide) (Nat.le_of_ble_eq_true rfl) (fun p e s m args below meth c ls C0 hl hW hin_ => ?_)
  have hl : lv_has ls 3 [(0, .int (p1)), (1, .int (p2)), (2, .int (p3))] := hl
  refine lv_iload_n C0.hx C0.hb dX14_both_0 rfl (lv_at hl 0 rfl) ?_
  by_cases hc1 : p1 = (6 : Int32)
  · replace h := (if_pos hc1).symm.trans h
    refine lv_tableIn (tgt := 80) C0.hx C0.hb dX14_both_1 (by rw [hc1]; decide) (by rw [hc1]; decide) (by rw [hc1]; rfl) (by decide) ?_
    refine lv_iload_n C0.hx C0.hb dX14_both_80 rfl (lv_at hl 1 rfl) ?_
    refine lv_iload_n C0.hx C0.hb dX14_both_81 rfl (lv_at hl 2 rfl) ?_
    refine lv_icmp_ge (tgt := 89) C0.hx C0.hb dX14_both_82 (by decide) (fun hc102 => ?_) (fun hc102 => ?_)
    · replace h := (if_pos hc102).symm.trans h
      refine lv_iload_n C0.hx C0.hb dX14_both_89 rfl (lv_at hl 2 rfl) ?_
      obtain rfl := Option.some.inj h
      exact h_iret C0 hW rfl rfl dX14_both_90
    · replace h := (if_neg hc102).symm.trans h
      refine lv_iload_n C0.hx C0.hb dX14_both_85 rfl (lv_at hl 1 rfl) ?_
      refine lv_goto (tgt := 90) C0.hx C0.hb dX14_both_86 (by decide) ?_
      obtain rfl := Option.some.inj h
      exact h_iret C0 hW rfl rfl dX14_both_90
  · replace h := (if_neg hc1).symm.trans h
    by_cases hc2 : p1 = (7 : Int32)
    · replace h := (if_pos hc2).symm.trans h
      refine lv_tableIn (tgt := 91) C0.hx C0.hb dX14_both_1 (by rw [hc2]; decide) (by rw [hc2]; decide) (by rw [hc2]; rfl) (by decide) ?_
      refine lv_iload_n C0.hx C0.hb dX14_both_91 rfl (lv_at hl 1 rfl) ?_
      refine lv_iload_n C0.hx C0.hb dX14_both_92 rfl (lv_at hl 2 rfl) ?_
      refine lv_icmp_ge (tgt := 100) C0.hx C0.hb dX14_both_93 (by decide) (fun hc101 => ?_) (fun hc101 => ?_)
      · replace h := (if_pos hc101).symm.trans h
        refine lv_iload_n C0.hx C0.hb dX14_both_100 rfl (lv_at hl 1 rfl) ?_
        obtain rfl := Option.some.inj h
        exact h_iret C0 hW rfl rfl dX14_both_101
      · replace h := (if_neg hc101).symm.trans h
        refine lv_iload_n C0.hx C0.hb dX14_both_96 rfl (lv_at hl 2 rfl) ?_
        refine lv_goto (tgt := 101) C0.hx C0.hb dX14_both_97 (by decide) ?_
        obtain rfl := Option.some.inj h
        exact h_iret C0 hW rfl rfl dX14_both_101
    · replace h := (if_neg hc2).symm.trans h
      by_cases hc3 : p1 = (8 : Int32)
      · replace h := (if_pos hc3).symm.trans h
        refine lv_tableIn (tgt := 102) C0.hx C0.hb dX14_both_1 (by rw [hc3]; decide) (by rw [hc3]; decide) (by rw [hc3]; rfl) (by decide) ?_
        refine lv_iload_n C0.hx C0.hb dX14_both_102 rfl (lv_at hl 1 rfl) ?_
        refine lv_iload_n C0.hx C0.hb dX14_both_103 rfl (lv_at hl 2 rfl) ?_
        refine lv_iadd C0.hx C0.hb dX14_both_104 ?_
        obtain rfl := Option.some.inj h
        exact h_iret C0 hW rfl rfl dX14_both_105
      · replace h := (if_neg hc3).symm.trans h
        by_cases hc4 : p1 = (9 : Int32)
        · replace h := (if_pos hc4).symm.trans h
          refine lv_tableIn (tgt := 106) C0.hx C0.hb dX14_both_1 (by rw [hc4]; decide) (by rw [hc4]; decide) (by rw [hc4]; rfl) (by decide) ?_
          refine lv_iload_n C0.hx C0.hb dX14_both_106 rfl (lv_at hl 1 rfl) ?_
          refine lv_iload_n C0.hx C0.hb dX14_both_107 rfl (lv_at hl 2 rfl) ?_
          refine lv_isub C0.hx C0.hb dX14_both_108 ?_
          obtain rfl := Option.some.inj h
          exact h_iret C0 hW rfl rfl dX14_both_109
        · replace h := (if_neg hc4).symm.trans h
          by_cases hc5 : p1 = (10 : Int32)
          · replace h := (if_pos hc5).symm.trans h
            refine lv_tableIn (tgt := 110) C0.hx C0.hb dX14_both_1 (by rw [hc5]; decide) (by rw [hc5]; decide) (by rw [hc5]; rfl) (by decide) ?_
            refine lv_iload_n C0.hx C0.hb dX14_both_110 rfl (lv_at hl 1 rfl) ?_
            refine lv_iload_n C0.hx C0.hb dX14_both_111 rfl (lv_at hl 2 rfl) ?_
            refine lv_imul C0.hx C0.hb dX14_both_112 ?_
            obtain rfl := Option.some.inj h
            exact h_iret C0 hW rfl rfl dX14_both_113
          · replace h := (if_neg hc5).symm.trans h
            by_cases hc6 : p1 = (11 : Int32)
            · replace h := (if_pos hc6).symm.trans h
              refine lv_tableIn (tgt := 114) C0.hx C0.hb dX14_both_1 (by rw [hc6]; decide) (by rw [hc6]; decide) (by rw [hc6]; rfl) (by decide) ?_
              refine lv_iload_n C0.hx C0.hb dX14_both_114 rfl (lv_at hl 2 rfl) ?_
              refine lv_if_ne (tgt := 122) C0.hx C0.hb dX14_both_115 (by decide) (fun hc99 => ?_) (fun hc99 => ?_)
              · replace h := (if_neg hc99).symm.trans h
                refine lv_iload_n C0.hx C0.hb dX14_both_122 rfl (lv_at hl 1 rfl) ?_
                refine lv_iload_n C0.hx C0.hb dX14_both_123 rfl (lv_at hl 2 rfl) ?_
                obtain ⟨hn100, h⟩ := g_if h
                refine lv_idiv C0.hx C0.hb dX14_both_124 hn100 ?_
                obtain rfl := Option.some.inj h
                exact h_iret C0 hW rfl rfl dX14_both_125
              · replace h := (if_pos hc99).symm.trans h
                refine lv_iconst (v := (0 : Int32)) C0.hx C0.hb dX14_both_118 (by decide) ?_
                refine lv_goto (tgt := 125) C0.hx C0.hb dX14_both_119 (by decide) ?_
                obtain rfl := Option.some.inj h
                exact h_iret C0 hW rfl rfl dX14_both_125
            · replace h := (if_neg hc6).symm.trans h
              by_cases hc7 : p1 = (12 : Int32)
              · replace h := (if_pos hc7).symm.trans h
                refine lv_tableIn (tgt := 142) C0.hx C0.hb dX14_both_1 (by rw [hc7]; decide) (by rw [hc7]; decide) (by rw [hc7]; rfl) (by decide) ?_
                refine lv_iload_n C0.hx C0.hb dX14_both_142 rfl (lv_at hl 0 rfl) ?_
                refine lv_bipush (v := (12 : Int32)) C0.hx C0.hb dX14_both_143 (by decide) ?_
                refine lv_icmp_ne (tgt := 156) C0.hx C0.hb dX14_both_145 (by decide) (fun hc90 => ?_) (fun hc90 => ?_)
                · replace h := (if_neg hc90).symm.trans h
                  refine lv_iload_n C0.hx C0.hb dX14_both_156 rfl (lv_at hl 0 rfl) ?_
                  refine lv_bipush (v := (13 : Int32)) C0.hx C0.hb dX14_both_157 (by decide) ?_
                  refine lv_icmp_ne (tgt := 170) C0.hx C0.hb dX14_both_159 (by decide) (fun hc91 => ?_) (fun hc91 => ?_)
                  · replace h := (if_neg hc91).symm.trans h
                    refine lv_iload_n C0.hx C0.hb dX14_both_170 rfl (lv_at hl 0 rfl) ?_
                    refine lv_bipush (v := (14 : Int32)) C0.hx C0.hb dX14_both_171 (by decide) ?_
                    refine lv_icmp_ne (tgt := 184) C0.hx C0.hb dX14_both_173 (by decide) (fun hc92 => ?_) (fun hc92 => ?_)
                    · replace h := (if_neg hc92).symm.trans h
                      refine lv_iload_n C0.hx C0.hb dX14_both_184 rfl (lv_at hl 0 rfl) ?_
                      refine lv_bipush (v := (15 : Int32)) C0.hx C0.hb dX14_both_185 (by decide) ?_
                      refine lv_icmp_ne (tgt := 198) C0.hx C0.hb dX14_both_187 (by decide) (fun hc93 => ?_) (fun hc93 => ?_)
                      · replace h := (if_neg hc93).symm.trans h
                        refine lv_iload_n C0.hx C0.hb dX14_both_198 rfl (lv_at hl 1 rfl) ?_
                        refine lv_iload_n C0.hx C0.hb dX14_both_199 rfl (lv_at hl 2 rfl) ?_
                        refine lv_icmp_lt (tgt := 207) C0.hx C0.hb dX14_both_200 (by decide) (fun hc94 => ?_) (fun hc94 => ?_)
                        · replace h := (if_pos hc94).symm.trans h
                          refine lv_iconst (v := (0 : Int32)) C0.hx C0.hb dX14_both_207 (by decide) ?_
                          obtain rfl := Option.some.inj h
                          exact h_iret C0 hW rfl rfl dX14_both_208
                        · replace h := (if_neg hc94).symm.trans h
                          refine lv_iconst (v := (1 : Int32)) C0.hx C0.hb dX14_both_203 (by decide) ?_
                          refine lv_goto (tgt := 208) C0.hx C0.hb dX14_both_204 (by decide) ?_
                          obtain rfl := Option.some.inj h
                          exact h_iret C0 hW rfl rfl dX14_both_208
                      · replace h := (if_pos hc93).symm.trans h
                        refine lv_iload_n C0.hx C0.hb dX14_both_190 rfl (lv_at hl 1 rfl) ?_
                        refine lv_iload_n C0.hx C0.hb dX14_both_191 rfl (lv_at hl 2 rfl) ?_
                        refine lv_icmp_gt (tgt := 207) C0.hx C0.hb dX14_both_192 (by decide) (fun hc95 => ?_) (fun hc95 => ?_)
                        · replace h := (if_pos hc95).symm.trans h
                          refine lv_iconst (v := (0 : Int32)) C0.hx C0.hb dX14_both_207 (by decide) ?_
                          obtain rfl := Option.some.inj h
                          exact h_iret C0 hW rfl rfl dX14_both_208
                        · replace h := (if_neg hc95).symm.trans h
                          refine lv_goto (tgt := 203) C0.hx C0.hb dX14_both_195 (by decide) ?_
                          refine lv_iconst (v := (1 : Int32)) C0.hx C0.hb dX14_both_203 (by decide) ?_
                          refine lv_goto (tgt := 208) C0.hx C0.hb dX14_both_204 (by decide) ?_
                          obtain rfl := Option.some.inj h
                          exact h_iret C0 hW rfl rfl dX14_both_208
                    · replace h := (if_pos hc92).symm.trans h
                      refine lv_iload_n C0.hx C0.hb dX14_both_176 rfl (lv_at hl 1 rfl) ?_
                      refine lv_iload_n C0.hx C0.hb dX14_both_177 rfl (lv_at hl 2 rfl) ?_
                      refine lv_icmp_ne (tgt := 207) C0.hx C0.hb dX14_both_178 (by decide) (fun hc96 => ?_) (fun hc96 => ?_)
                      · replace h := (if_neg hc96).symm.trans h
                        refine lv_iconst (v := (0 : Int32)) C0.hx C0.hb dX14_both_207 (by decide) ?_
                        obtain rfl := Option.some.inj h
                        exact h_iret C0 hW rfl rfl dX14_both_208
                      · replace h := (if_pos hc96).symm.trans h
                        refine lv_goto (tgt := 203) C0.hx C0.hb dX14_both_181 (by decide) ?_
                        refine lv_iconst (v := (1 : Int32)) C0.hx C0.hb dX14_both_203 (by decide) ?_
                        refine lv_goto (tgt := 208) C0.hx C0.hb dX14_both_204 (by decide) ?_
                        obtain rfl := Option.some.inj h
                        exact h_iret C0 hW rfl rfl dX14_both_208
                  · replace h := (if_pos hc91).symm.trans h
                    refine lv_iload_n C0.hx C0.hb dX14_both_162 rfl (lv_at hl 1 rfl) ?_
                    refine lv_iload_n C0.hx C0.hb dX14_both_163 rfl (lv_at hl 2 rfl) ?_
                    refine lv_icmp_le (tgt := 207) C0.hx C0.hb dX14_both_164 (by decide) (fun hc97 => ?_) (fun hc97 => ?_)
                    · replace h := (if_pos hc97).symm.trans h
                      refine lv_iconst (v := (0 : Int32)) C0.hx C0.hb dX14_both_207 (by decide) ?_
                      obtain rfl := Option.some.inj h
                      exact h_iret C0 hW rfl rfl dX14_both_208
                    · replace h := (if_neg hc97).symm.trans h
                      refine lv_goto (tgt := 203) C0.hx C0.hb dX14_both_167 (by decide) ?_
                      refine lv_iconst (v := (1 : Int32)) C0.hx C0.hb dX14_both_203 (by decide) ?_
                      refine lv_goto (tgt := 208) C0.hx C0.hb dX14_both_204 (by decide) ?_
                      obtain rfl := Option.some.inj h
                      exact h_iret C0 hW rfl rfl dX14_both_208
                · replace h := (if_pos hc90).symm.trans h
                  refine lv_iload_n C0.hx C0.hb dX14_both_148 rfl (lv_at hl 1 rfl) ?_
                  refine lv_iload_n C0.hx C0.hb dX14_both_149 rfl (lv_at hl 2 rfl) ?_
                  refine lv_icmp_ge (tgt := 207) C0.hx C0.hb dX14_both_150 (by decide) (fun hc98 => ?_) (fun hc98 => ?_)
                  · replace h := (if_pos hc98).symm.trans h
                    refine lv_iconst (v := (0 : Int32)) C0.hx C0.hb dX14_both_207 (by decide) ?_
                    obtain rfl := Option.some.inj h
                    exact h_iret C0 hW rfl rfl dX14_both_208
                  · replace h := (if_neg hc98).symm.trans h
                    refine lv_goto (tgt := 203) C0.hx C0.hb dX14_both_153 (by decide) ?_
                    refine lv_iconst (v := (1 : Int32)) C0.hx C0.hb dX14_both_203 (by decide) ?_
                    refine lv_goto (tgt := 208) C0.hx C0.hb dX14_both_204 (by decide) ?_
                    obtain rfl := Option.some.inj h
                    exact h_iret C0 hW rfl rfl dX14_both_208
              · replace h := (if_neg hc7).symm.trans h
                by_cases hc8 : p1 = (13 : Int32)
                · replace h := (if_pos hc8).symm.trans h
                  refine lv_tableIn (tgt := 142) C0.hx C0.hb dX14_both_1 (by rw [hc8]; decide) (by rw [hc8]; decide) (by rw [hc8]; rfl) (by decide) ?_
                  refine lv_iload_n C0.hx C0.hb dX14_both_142 rfl (lv_at hl 0 rfl) ?_
                  refine lv_bipush (v := (12 : Int32)) C0.hx C0.hb dX14_both_143 (by decide) ?_
                  refine lv_icmp_ne (tgt := 156) C0.hx C0.hb dX14_both_145 (by decide) (fun hc81 => ?_) (fun hc81 => ?_)
                  · replace h := (if_neg hc81).symm.trans h
                    refine lv_iload_n C0.hx C0.hb dX14_both_156 rfl (lv_at hl 0 rfl) ?_
                    refine lv_bipush (v := (13 : Int32)) C0.hx C0.hb dX14_both_157 (by decide) ?_
                    refine lv_icmp_ne (tgt := 170) C0.hx C0.hb dX14_both_159 (by decide) (fun hc82 => ?_) (fun hc82 => ?_)
                    · replace h := (if_neg hc82).symm.trans h
                      refine lv_iload_n C0.hx C0.hb dX14_both_170 rfl (lv_at hl 0 rfl) ?_
                      refine lv_bipush (v := (14 : Int32)) C0.hx C0.hb dX14_both_171 (by decide) ?_
                      refine lv_icmp_ne (tgt := 184) C0.hx C0.hb dX14_both_173 (by decide) (fun hc83 => ?_) (fun hc83 => ?_)
                      · replace h := (if_neg hc83).symm.trans h
                        refine lv_iload_n C0.hx C0.hb dX14_both_184 rfl (lv_at hl 0 rfl) ?_
                        refine lv_bipush (v := (15 : Int32)) C0.hx C0.hb dX14_both_185 (by decide) ?_
                        refine lv_icmp_ne (tgt := 198) C0.hx C0.hb dX14_both_187 (by decide) (fun hc84 => ?_) (fun hc84 => ?_)
                        · replace h := (if_neg hc84).symm.trans h
                          refine lv_iload_n C0.hx C0.hb dX14_both_198 rfl (lv_at hl 1 rfl) ?_
                          refine lv_iload_n C0.hx C0.hb dX14_both_199 rfl (lv_at hl 2 rfl) ?_
                          refine lv_icmp_lt (tgt := 207) C0.hx C0.hb dX14_both_200 (by decide) (fun hc85 => ?_) (fun hc85 => ?_)
                          · replace h := (if_pos hc85).symm.trans h
                            refine lv_iconst (v := (0 : Int32)) C0.hx C0.hb dX14_both_207 (by decide) ?_
                            obtain rfl := Option.some.inj h
                            exact h_iret C0 hW rfl rfl dX14_both_208
                          · replace h := (if_neg hc85).symm.trans h
                            refine lv_iconst (v := (1 : Int32)) C0.hx C0.hb dX14_both_203 (by decide) ?_
                            refine lv_goto (tgt := 208) C0.hx C0.hb dX14_both_204 (by decide) ?_
                            obtain rfl := Option.some.inj h
                            exact h_iret C0 hW rfl rfl dX14_both_208
                        · replace h := (if_pos hc84).symm.trans h
                          refine lv_iload_n C0.hx C0.hb dX14_both_190 rfl (lv_at hl 1 rfl) ?_
                          refine lv_iload_n C0.hx C0.hb dX14_both_191 rfl (lv_at hl 2 rfl) ?_
                          refine lv_icmp_gt (tgt := 207) C0.hx C0.hb dX14_both_192 (by decide) (fun hc86 => ?_) (fun hc86 => ?_)
                          · replace h := (if_pos hc86).symm.trans h
                            refine lv_iconst (v := (0 : Int32)) C0.hx C0.hb dX14_both_207 (by decide) ?_
                            obtain rfl := Option.some.inj h
                            exact h_iret C0 hW rfl rfl dX14_both_208
                          · replace h := (if_neg hc86).symm.trans h
                            refine lv_goto (tgt := 203) C0.hx C0.hb dX14_both_195 (by decide) ?_
                            refine lv_iconst (v := (1 : Int32)) C0.hx C0.hb dX14_both_203 (by decide) ?_
                            refine lv_goto (tgt := 208) C0.hx C0.hb dX14_both_204 (by decide) ?_
                            obtain rfl := Option.some.inj h
                            exact h_iret C0 hW rfl rfl dX14_both_208
                      · replace h := (if_pos hc83).symm.trans h
                        refine lv_iload_n C0.hx C0.hb dX14_both_176 rfl (lv_at hl 1 rfl) ?_
                        refine lv_iload_n C0.hx C0.hb dX14_both_177 rfl (lv_at hl 2 rfl) ?_
                        refine lv_icmp_ne (tgt := 207) C0.hx C0.hb dX14_both_178 (by decide) (fun hc87 => ?_) (fun hc87 => ?_)
                        · replace h := (if_neg hc87).symm.trans h
                          refine lv_iconst (v := (0 : Int32)) C0.hx C0.hb dX14_both_207 (by decide) ?_
                          obtain rfl := Option.some.inj h
                          exact h_iret C0 hW rfl rfl dX14_both_208
                        · replace h := (if_pos hc87).symm.trans h
                          refine lv_goto (tgt := 203) C0.hx C0.hb dX14_both_181 (by decide) ?_
                          refine lv_iconst (v := (1 : Int32)) C0.hx C0.hb dX14_both_203 (by decide) ?_
                          refine lv_goto (tgt := 208) C0.hx C0.hb dX14_both_204 (by decide) ?_
                          obtain rfl := Option.some.inj h
                          exact h_iret C0 hW rfl rfl dX14_both_208
                    · replace h := (if_pos hc82).symm.trans h
                      refine lv_iload_n C0.hx C0.hb dX14_both_162 rfl (lv_at hl 1 rfl) ?_
                      refine lv_iload_n C0.hx C0.hb dX14_both_163 rfl (lv_at hl 2 rfl) ?_
                      refine lv_icmp_le (tgt := 207) C0.hx C0.hb dX14_both_164 (by decide) (fun hc88 => ?_) (fun hc88 => ?_)
                      · replace h := (if_pos hc88).symm.trans h
                        refine lv_iconst (v := (0 : Int32)) C0.hx C0.hb dX14_both_207 (by decide) ?_
                        obtain rfl := Option.some.inj h
                        exact h_iret C0 hW rfl rfl dX14_both_208
                      · replace h := (if_neg hc88).symm.trans h
                        refine lv_goto (tgt := 203) C0.hx C0.hb dX14_both_167 (by decide) ?_
                        refine lv_iconst (v := (1 : Int32)) C0.hx C0.hb dX14_both_203 (by decide) ?_
                        refine lv_goto (tgt := 208) C0.hx C0.hb dX14_both_204 (by decide) ?_
                        obtain rfl := Option.some.inj h
                        exact h_iret C0 hW rfl rfl dX14_both_208
                  · replace h := (if_pos hc81).symm.trans h
                    refine lv_iload_n C0.hx C0.hb dX14_both_148 rfl (lv_at hl 1 rfl) ?_
                    refine lv_iload_n C0.hx C0.hb dX14_both_149 rfl (lv_at hl 2 rfl) ?_
                    refine lv_icmp_ge (tgt := 207) C0.hx C0.hb dX14_both_150 (by decide) (fun hc89 => ?_) (fun hc89 => ?_)
                    · replace h := (if_pos hc89).symm.trans h
                      refine lv_iconst (v := (0 : Int32)) C0.hx C0.hb dX14_both_207 (by decide) ?_
                      obtain rfl := Option.some.inj h
                      exact h_iret C0 hW rfl rfl dX14_both_208
                    · replace h := (if_neg hc89).symm.trans h
                      refine lv_goto (tgt := 203) C0.hx C0.hb dX14_both_153 (by decide) ?_
                      refine lv_iconst (v := (1 : Int32)) C0.hx C0.hb dX14_both_203 (by decide) ?_
                      refine lv_goto (tgt := 208) C0.hx C0.hb dX14_both_204 (by decide) ?_
                      obtain rfl := Option.some.inj h
                      exact h_iret C0 hW rfl rfl dX14_both_208
                · replace h := (if_neg hc8).symm.trans h
                  by_cases hc9 : p1 = (14 : Int32)
                  · replace h := (if_pos hc9).symm.trans h
                    refine lv_tableIn (tgt := 142) C0.hx C0.hb dX14_both_1 (by rw [hc9]; decide) (by rw [hc9]; decide) (by rw [hc9]; rfl) (by decide) ?_
                    refine lv_iload_n C0.hx C0.hb dX14_both_142 rfl (lv_at hl 0 rfl) ?_
                    refine lv_bipush (v := (12 : Int32)) C0.hx C0.hb dX14_both_143 (by decide) ?_
                    refine lv_icmp_ne (tgt := 156) C0.hx C0.hb dX14_both_145 (by decide) (fun hc72 => ?_) (fun hc72 => ?_)
                    · replace h := (if_neg hc72).symm.trans h
                      refine lv_iload_n C0.hx C0.hb dX14_both_156 rfl (lv_at hl 0 rfl) ?_
                      refine lv_bipush (v := (13 : Int32)) C0.hx C0.hb dX14_both_157 (by decide) ?_
                      refine lv_icmp_ne (tgt := 170) C0.hx C0.hb dX14_both_159 (by decide) (fun hc73 => ?_) (fun hc73 => ?_)
                      · replace h := (if_neg hc73).symm.trans h
                        refine lv_iload_n C0.hx C0.hb dX14_both_170 rfl (lv_at hl 0 rfl) ?_
                        refine lv_bipush (v := (14 : Int32)) C0.hx C0.hb dX14_both_171 (by decide) ?_
                        refine lv_icmp_ne (tgt := 184) C0.hx C0.hb dX14_both_173 (by decide) (fun hc74 => ?_) (fun hc74 => ?_)
                        · replace h := (if_neg hc74).symm.trans h
                          refine lv_iload_n C0.hx C0.hb dX14_both_184 rfl (lv_at hl 0 rfl) ?_
                          refine lv_bipush (v := (15 : Int32)) C0.hx C0.hb dX14_both_185 (by decide) ?_
                          refine lv_icmp_ne (tgt := 198) C0.hx C0.hb dX14_both_187 (by decide) (fun hc75 => ?_) (fun hc75 => ?_)
                          · replace h := (if_neg hc75).symm.trans h
                            refine lv_iload_n C0.hx C0.hb dX14_both_198 rfl (lv_at hl 1 rfl) ?_
                            refine lv_iload_n C0.hx C0.hb dX14_both_199 rfl (lv_at hl 2 rfl) ?_
                            refine lv_icmp_lt (tgt := 207) C0.hx C0.hb dX14_both_200 (by decide) (fun hc76 => ?_) (fun hc76 => ?_)
                            · replace h := (if_pos hc76).symm.trans h
                              refine lv_iconst (v := (0 : Int32)) C0.hx C0.hb dX14_both_207 (by decide) ?_
                              obtain rfl := Option.some.inj h
                              exact h_iret C0 hW rfl rfl dX14_both_208
                            · replace h := (if_neg hc76).symm.trans h
                              refine lv_iconst (v := (1 : Int32)) C0.hx C0.hb dX14_both_203 (by decide) ?_
                              refine lv_goto (tgt := 208) C0.hx C0.hb dX14_both_204 (by decide) ?_
                              obtain rfl := Option.some.inj h
                              exact h_iret C0 hW rfl rfl dX14_both_208
                          · replace h := (if_pos hc75).symm.trans h
                            refine lv_iload_n C0.hx C0.hb dX14_both_190 rfl (lv_at hl 1 rfl) ?_
                            refine lv_iload_n C0.hx C0.hb dX14_both_191 rfl (lv_at hl 2 rfl) ?_
                            refine lv_icmp_gt (tgt := 207) C0.hx C0.hb dX14_both_192 (by decide) (fun hc77 => ?_) (fun hc77 => ?_)
                            · replace h := (if_pos hc77).symm.trans h
                              refine lv_iconst (v := (0 : Int32)) C0.hx C0.hb dX14_both_207 (by decide) ?_
                              obtain rfl := Option.some.inj h
                              exact h_iret C0 hW rfl rfl dX14_both_208
                            · replace h := (if_neg hc77).symm.trans h
                              refine lv_goto (tgt := 203) C0.hx C0.hb dX14_both_195 (by decide) ?_
                              refine lv_iconst (v := (1 : Int32)) C0.hx C0.hb dX14_both_203 (by decide) ?_
                              refine lv_goto (tgt := 208) C0.hx C0.hb dX14_both_204 (by decide) ?_
                              obtain rfl := Option.some.inj h
                              exact h_iret C0 hW rfl rfl dX14_both_208
                        · replace h := (if_pos hc74).symm.trans h
                          refine lv_iload_n C0.hx C0.hb dX14_both_176 rfl (lv_at hl 1 rfl) ?_
                          refine lv_iload_n C0.hx C0.hb dX14_both_177 rfl (lv_at hl 2 rfl) ?_
                          refine lv_icmp_ne (tgt := 207) C0.hx C0.hb dX14_both_178 (by decide) (fun hc78 => ?_) (fun hc78 => ?_)
                          · replace h := (if_neg hc78).symm.trans h
                            refine lv_iconst (v := (0 : Int32)) C0.hx C0.hb dX14_both_207 (by decide) ?_
                            obtain rfl := Option.some.inj h
                            exact h_iret C0 hW rfl rfl dX14_both_208
                          · replace h := (if_pos hc78).symm.trans h
                            refine lv_goto (tgt := 203) C0.hx C0.hb dX14_both_181 (by decide) ?_
                            refine lv_iconst (v := (1 : Int32)) C0.hx C0.hb dX14_both_203 (by decide) ?_
                            refine lv_goto (tgt := 208) C0.hx C0.hb dX14_both_204 (by decide) ?_
                            obtain rfl := Option.some.inj h
                            exact h_iret C0 hW rfl rfl dX14_both_208
                      · replace h := (if_pos hc73).symm.trans h
                        refine lv_iload_n C0.hx C0.hb dX14_both_162 rfl (lv_at hl 1 rfl) ?_
                        refine lv_iload_n C0.hx C0.hb dX14_both_163 rfl (lv_at hl 2 rfl) ?_
                        refine lv_icmp_le (tgt := 207) C0.hx C0.hb dX14_both_164 (by decide) (fun hc79 => ?_) (fun hc79 => ?_)
                        · replace h := (if_pos hc79).symm.trans h
                          refine lv_iconst (v := (0 : Int32)) C0.hx C0.hb dX14_both_207 (by decide) ?_
                          obtain rfl := Option.some.inj h
                          exact h_iret C0 hW rfl rfl dX14_both_208
                        · replace h := (if_neg hc79).symm.trans h
                          refine lv_goto (tgt := 203) C0.hx C0.hb dX14_both_167 (by decide) ?_
                          refine lv_iconst (v := (1 : Int32)) C0.hx C0.hb dX14_both_203 (by decide) ?_
                          refine lv_goto (tgt := 208) C0.hx C0.hb dX14_both_204 (by decide) ?_
                          obtain rfl := Option.some.inj h
                          exact h_iret C0 hW rfl rfl dX14_both_208
                    · replace h := (if_pos hc72).symm.trans h
                      refine lv_iload_n C0.hx C0.hb dX14_both_148 rfl (lv_at hl 1 rfl) ?_
                      refine lv_iload_n C0.hx C0.hb dX14_both_149 rfl (lv_at hl 2 rfl) ?_
                      refine lv_icmp_ge (tgt := 207) C0.hx C0.hb dX14_both_150 (by decide) (fun hc80 => ?_) (fun hc80 => ?_)
                      · replace h := (if_pos hc80).symm.trans h
                        refine lv_iconst (v := (0 : Int32)) C0.hx C0.hb dX14_both_207 (by decide) ?_
                        obtain rfl := Option.some.inj h
                        exact h_iret C0 hW rfl rfl dX14_both_208
                      · replace h := (if_neg hc80).symm.trans h
                        refine lv_goto (tgt := 203) C0.hx C0.hb dX14_both_153 (by decide) ?_
                        refine lv_iconst (v := (1 : Int32)) C0.hx C0.hb dX14_both_203 (by decide) ?_
                        refine lv_goto (tgt := 208) C0.hx C0.hb dX14_both_204 (by decide) ?_
                        obtain rfl := Option.some.inj h
                        exact h_iret C0 hW rfl rfl dX14_both_208
                  · replace h := (if_neg hc9).symm.trans h
                    by_cases hc10 : p1 = (15 : Int32)
                    · replace h := (if_pos hc10).symm.trans h
                      refine lv_tableIn (tgt := 142) C0.hx C0.hb dX14_both_1 (by rw [hc10]; decide) (by rw [hc10]; decide) (by rw [hc10]; rfl) (by decide) ?_
                      refine lv_iload_n C0.hx C0.hb dX14_both_142 rfl (lv_at hl 0 rfl) ?_
                      refine lv_bipush (v := (12 : Int32)) C0.hx C0.hb dX14_both_143 (by decide) ?_
                      refine lv_icmp_ne (tgt := 156) C0.hx C0.hb dX14_both_145 (by decide) (fun hc63 => ?_) (fun hc63 => ?_)
                      · replace h := (if_neg hc63).symm.trans h
                        refine lv_iload_n C0.hx C0.hb dX14_both_156 rfl (lv_at hl 0 rfl) ?_
                        refine lv_bipush (v := (13 : Int32)) C0.hx C0.hb dX14_both_157 (by decide) ?_
                        refine lv_icmp_ne (tgt := 170) C0.hx C0.hb dX14_both_159 (by decide) (fun hc64 => ?_) (fun hc64 => ?_)
                        · replace h := (if_neg hc64).symm.trans h
                          refine lv_iload_n C0.hx C0.hb dX14_both_170 rfl (lv_at hl 0 rfl) ?_
                          refine lv_bipush (v := (14 : Int32)) C0.hx C0.hb dX14_both_171 (by decide) ?_
                          refine lv_icmp_ne (tgt := 184) C0.hx C0.hb dX14_both_173 (by decide) (fun hc65 => ?_) (fun hc65 => ?_)
                          · replace h := (if_neg hc65).symm.trans h
                            refine lv_iload_n C0.hx C0.hb dX14_both_184 rfl (lv_at hl 0 rfl) ?_
                            refine lv_bipush (v := (15 : Int32)) C0.hx C0.hb dX14_both_185 (by decide) ?_
                            refine lv_icmp_ne (tgt := 198) C0.hx C0.hb dX14_both_187 (by decide) (fun hc66 => ?_) (fun hc66 => ?_)
                            · replace h := (if_neg hc66).symm.trans h
                              refine lv_iload_n C0.hx C0.hb dX14_both_198 rfl (lv_at hl 1 rfl) ?_
                              refine lv_iload_n C0.hx C0.hb dX14_both_199 rfl (lv_at hl 2 rfl) ?_
                              refine lv_icmp_lt (tgt := 207) C0.hx C0.hb dX14_both_200 (by decide) (fun hc67 => ?_) (fun hc67 => ?_)
                              · replace h := (if_pos hc67).symm.trans h
                                refine lv_iconst (v := (0 : Int32)) C0.hx C0.hb dX14_both_207 (by decide) ?_
                                obtain rfl := Option.some.inj h
                                exact h_iret C0 hW rfl rfl dX14_both_208
                              · replace h := (if_neg hc67).symm.trans h
                                refine lv_iconst (v := (1 : Int32)) C0.hx C0.hb dX14_both_203 (by decide) ?_
                                refine lv_goto (tgt := 208) C0.hx C0.hb dX14_both_204 (by decide) ?_
                                obtain rfl := Option.some.inj h
                                exact h_iret C0 hW rfl rfl dX14_both_208
                            · replace h := (if_pos hc66).symm.trans h
                              refine lv_iload_n C0.hx C0.hb dX14_both_190 rfl (lv_at hl 1 rfl) ?_
                              refine lv_iload_n C0.hx C0.hb dX14_both_191 rfl (lv_at hl 2 rfl) ?_
                              refine lv_icmp_gt (tgt := 207) C0.hx C0.hb dX14_both_192 (by decide) (fun hc68 => ?_) (fun hc68 => ?_)
                              · replace h := (if_pos hc68).symm.trans h
                                refine lv_iconst (v := (0 : Int32)) C0.hx C0.hb dX14_both_207 (by decide) ?_
                                obtain rfl := Option.some.inj h
                                exact h_iret C0 hW rfl rfl dX14_both_208
                              · replace h := (if_neg hc68).symm.trans h
                                refine lv_goto (tgt := 203) C0.hx C0.hb dX14_both_195 (by decide) ?_
                                refine lv_iconst (v := (1 : Int32)) C0.hx C0.hb dX14_both_203 (by decide) ?_
                                refine lv_goto (tgt := 208) C0.hx C0.hb dX14_both_204 (by decide) ?_
                                obtain rfl := Option.some.inj h
                                exact h_iret C0 hW rfl rfl dX14_both_208
                          · replace h := (if_pos hc65).symm.trans h
                            refine lv_iload_n C0.hx C0.hb dX14_both_176 rfl (lv_at hl 1 rfl) ?_
                            refine lv_iload_n C0.hx C0.hb dX14_both_177 rfl (lv_at hl 2 rfl) ?_
                            refine lv_icmp_ne (tgt := 207) C0.hx C0.hb dX14_both_178 (by decide) (fun hc69 => ?_) (fun hc69 => ?_)
                            · replace h := (if_neg hc69).symm.trans h
                              refine lv_iconst (v := (0 : Int32)) C0.hx C0.hb dX14_both_207 (by decide) ?_
                              obtain rfl := Option.some.inj h
                              exact h_iret C0 hW rfl rfl dX14_both_208
                            · replace h := (if_pos hc69).symm.trans h
                              refine lv_goto (tgt := 203) C0.hx C0.hb dX14_both_181 (by decide) ?_
                              refine lv_iconst (v := (1 : Int32)) C0.hx C0.hb dX14_both_203 (by decide) ?_
                              refine lv_goto (tgt := 208) C0.hx C0.hb dX14_both_204 (by decide) ?_
                              obtain rfl := Option.some.inj h
                              exact h_iret C0 hW rfl rfl dX14_both_208
                        · replace h := (if_pos hc64).symm.trans h
                          refine lv_iload_n C0.hx C0.hb dX14_both_162 rfl (lv_at hl 1 rfl) ?_
                          refine lv_iload_n C0.hx C0.hb dX14_both_163 rfl (lv_at hl 2 rfl) ?_
                          refine lv_icmp_le (tgt := 207) C0.hx C0.hb dX14_both_164 (by decide) (fun hc70 => ?_) (fun hc70 => ?_)
                          · replace h := (if_pos hc70).symm.trans h
                            refine lv_iconst (v := (0 : Int32)) C0.hx C0.hb dX14_both_207 (by decide) ?_
                            obtain rfl := Option.some.inj h
                            exact h_iret C0 hW rfl rfl dX14_both_208
                          · replace h := (if_neg hc70).symm.trans h
                            refine lv_goto (tgt := 203) C0.hx C0.hb dX14_both_167 (by decide) ?_
                            refine lv_iconst (v := (1 : Int32)) C0.hx C0.hb dX14_both_203 (by decide) ?_
                            refine lv_goto (tgt := 208) C0.hx C0.hb dX14_both_204 (by decide) ?_
                            obtain rfl := Option.some.inj h
                            exact h_iret C0 hW rfl rfl dX14_both_208
                      · replace h := (if_pos hc63).symm.trans h
                        refine lv_iload_n C0.hx C0.hb dX14_both_148 rfl (lv_at hl 1 rfl) ?_
                        refine lv_iload_n C0.hx C0.hb dX14_both_149 rfl (lv_at hl 2 rfl) ?_
                        refine lv_icmp_ge (tgt := 207) C0.hx C0.hb dX14_both_150 (by decide) (fun hc71 => ?_) (fun hc71 => ?_)
                        · replace h := (if_pos hc71).symm.trans h
                          refine lv_iconst (v := (0 : Int32)) C0.hx C0.hb dX14_both_207 (by decide) ?_
                          obtain rfl := Option.some.inj h
                          exact h_iret C0 hW rfl rfl dX14_both_208
                        · replace h := (if_neg hc71).symm.trans h
                          refine lv_goto (tgt := 203) C0.hx C0.hb dX14_both_153 (by decide) ?_
                          refine lv_iconst (v := (1 : Int32)) C0.hx C0.hb dX14_both_203 (by decide) ?_
                          refine lv_goto (tgt := 208) C0.hx C0.hb dX14_both_204 (by decide) ?_
                          obtain rfl := Option.some.inj h
                          exact h_iret C0 hW rfl rfl dX14_both_208
                    · replace h := (if_neg hc10).symm.trans h
                      by_cases hc11 : p1 = (16 : Int32)
                      · replace h := (if_pos hc11).symm.trans h
                        refine lv_tableIn (tgt := 142) C0.hx C0.hb dX14_both_1 (by rw [hc11]; decide) (by rw [hc11]; decide) (by rw [hc11]; rfl) (by decide) ?_
                        refine lv_iload_n C0.hx C0.hb dX14_both_142 rfl (lv_at hl 0 rfl) ?_
                        refine lv_bipush (v := (12 : Int32)) C0.hx C0.hb dX14_both_143 (by decide) ?_
                        refine lv_icmp_ne (tgt := 156) C0.hx C0.hb dX14_both_145 (by decide) (fun hc54 => ?_) (fun hc54 => ?_)
                        · replace h := (if_neg hc54).symm.trans h
                          refine lv_iload_n C0.hx C0.hb dX14_both_156 rfl (lv_at hl 0 rfl) ?_
                          refine lv_bipush (v := (13 : Int32)) C0.hx C0.hb dX14_both_157 (by decide) ?_
                          refine lv_icmp_ne (tgt := 170) C0.hx C0.hb dX14_both_159 (by decide) (fun hc55 => ?_) (fun hc55 => ?_)
                          · replace h := (if_neg hc55).symm.trans h
                            refine lv_iload_n C0.hx C0.hb dX14_both_170 rfl (lv_at hl 0 rfl) ?_
                            refine lv_bipush (v := (14 : Int32)) C0.hx C0.hb dX14_both_171 (by decide) ?_
                            refine lv_icmp_ne (tgt := 184) C0.hx C0.hb dX14_both_173 (by decide) (fun hc56 => ?_) (fun hc56 => ?_)
                            · replace h := (if_neg hc56).symm.trans h
                              refine lv_iload_n C0.hx C0.hb dX14_both_184 rfl (lv_at hl 0 rfl) ?_
                              refine lv_bipush (v := (15 : Int32)) C0.hx C0.hb dX14_both_185 (by decide) ?_
                              refine lv_icmp_ne (tgt := 198) C0.hx C0.hb dX14_both_187 (by decide) (fun hc57 => ?_) (fun hc57 => ?_)
                              · replace h := (if_neg hc57).symm.trans h
                                refine lv_iload_n C0.hx C0.hb dX14_both_198 rfl (lv_at hl 1 rfl) ?_
                                refine lv_iload_n C0.hx C0.hb dX14_both_199 rfl (lv_at hl 2 rfl) ?_
                                refine lv_icmp_lt (tgt := 207) C0.hx C0.hb dX14_both_200 (by decide) (fun hc58 => ?_) (fun hc58 => ?_)
                                · replace h := (if_pos hc58).symm.trans h
                                  refine lv_iconst (v := (0 : Int32)) C0.hx C0.hb dX14_both_207 (by decide) ?_
                                  obtain rfl := Option.some.inj h
                                  exact h_iret C0 hW rfl rfl dX14_both_208
                                · replace h := (if_neg hc58).symm.trans h
                                  refine lv_iconst (v := (1 : Int32)) C0.hx C0.hb dX14_both_203 (by decide) ?_
                                  refine lv_goto (tgt := 208) C0.hx C0.hb dX14_both_204 (by decide) ?_
                                  obtain rfl := Option.some.inj h
                                  exact h_iret C0 hW rfl rfl dX14_both_208
                              · replace h := (if_pos hc57).symm.trans h
                                refine lv_iload_n C0.hx C0.hb dX14_both_190 rfl (lv_at hl 1 rfl) ?_
                                refine lv_iload_n C0.hx C0.hb dX14_both_191 rfl (lv_at hl 2 rfl) ?_
                                refine lv_icmp_gt (tgt := 207) C0.hx C0.hb dX14_both_192 (by decide) (fun hc59 => ?_) (fun hc59 => ?_)
                                · replace h := (if_pos hc59).symm.trans h
                                  refine lv_iconst (v := (0 : Int32)) C0.hx C0.hb dX14_both_207 (by decide) ?_
                                  obtain rfl := Option.some.inj h
                                  exact h_iret C0 hW rfl rfl dX14_both_208
                                · replace h := (if_neg hc59).symm.trans h
                                  refine lv_goto (tgt := 203) C0.hx C0.hb dX14_both_195 (by decide) ?_
                                  refine lv_iconst (v := (1 : Int32)) C0.hx C0.hb dX14_both_203 (by decide) ?_
                                  refine lv_goto (tgt := 208) C0.hx C0.hb dX14_both_204 (by decide) ?_
                                  obtain rfl := Option.some.inj h
                                  exact h_iret C0 hW rfl rfl dX14_both_208
                            · replace h := (if_pos hc56).symm.trans h
                              refine lv_iload_n C0.hx C0.hb dX14_both_176 rfl (lv_at hl 1 rfl) ?_
                              refine lv_iload_n C0.hx C0.hb dX14_both_177 rfl (lv_at hl 2 rfl) ?_
                              refine lv_icmp_ne (tgt := 207) C0.hx C0.hb dX14_both_178 (by decide) (fun hc60 => ?_) (fun hc60 => ?_)
                              · replace h := (if_neg hc60).symm.trans h
                                refine lv_iconst (v := (0 : Int32)) C0.hx C0.hb dX14_both_207 (by decide) ?_
                                obtain rfl := Option.some.inj h
                                exact h_iret C0 hW rfl rfl dX14_both_208
                              · replace h := (if_pos hc60).symm.trans h
                                refine lv_goto (tgt := 203) C0.hx C0.hb dX14_both_181 (by decide) ?_
                                refine lv_iconst (v := (1 : Int32)) C0.hx C0.hb dX14_both_203 (by decide) ?_
                                refine lv_goto (tgt := 208) C0.hx C0.hb dX14_both_204 (by decide) ?_
                                obtain rfl := Option.some.inj h
                                exact h_iret C0 hW rfl rfl dX14_both_208
                          · replace h := (if_pos hc55).symm.trans h
                            refine lv_iload_n C0.hx C0.hb dX14_both_162 rfl (lv_at hl 1 rfl) ?_
                            refine lv_iload_n C0.hx C0.hb dX14_both_163 rfl (lv_at hl 2 rfl) ?_
                            refine lv_icmp_le (tgt := 207) C0.hx C0.hb dX14_both_164 (by decide) (fun hc61 => ?_) (fun hc61 => ?_)
                            · replace h := (if_pos hc61).symm.trans h
                              refine lv_iconst (v := (0 : Int32)) C0.hx C0.hb dX14_both_207 (by decide) ?_
                              obtain rfl := Option.some.inj h
                              exact h_iret C0 hW rfl rfl dX14_both_208
                            · replace h := (if_neg hc61).symm.trans h
                              refine lv_goto (tgt := 203) C0.hx C0.hb dX14_both_167 (by decide) ?_
                              refine lv_iconst (v := (1 : Int32)) C0.hx C0.hb dX14_both_203 (by decide) ?_
                              refine lv_goto (tgt := 208) C0.hx C0.hb dX14_both_204 (by decide) ?_
                              obtain rfl := Option.some.inj h
                              exact h_iret C0 hW rfl rfl dX14_both_208
                        · replace h := (if_pos hc54).symm.trans h
                          refine lv_iload_n C0.hx C0.hb dX14_both_148 rfl (lv_at hl 1 rfl) ?_
                          refine lv_iload_n C0.hx C0.hb dX14_both_149 rfl (lv_at hl 2 rfl) ?_
                          refine lv_icmp_ge (tgt := 207) C0.hx C0.hb dX14_both_150 (by decide) (fun hc62 => ?_) (fun hc62 => ?_)
                          · replace h := (if_pos hc62).symm.trans h
                            refine lv_iconst (v := (0 : Int32)) C0.hx C0.hb dX14_both_207 (by decide) ?_
                            obtain rfl := Option.some.inj h
                            exact h_iret C0 hW rfl rfl dX14_both_208
                          · replace h := (if_neg hc62).symm.trans h
                            refine lv_goto (tgt := 203) C0.hx C0.hb dX14_both_153 (by decide) ?_
                            refine lv_iconst (v := (1 : Int32)) C0.hx C0.hb dX14_both_203 (by decide) ?_
                            refine lv_goto (tgt := 208) C0.hx C0.hb dX14_both_204 (by decide) ?_
                            obtain rfl := Option.some.inj h
                            exact h_iret C0 hW rfl rfl dX14_both_208
                      · replace h := (if_neg hc11).symm.trans h
                        by_cases hc12 : p1 = (17 : Int32)
                        · replace h := (if_pos hc12).symm.trans h
                          refine lv_tableIn (tgt := 142) C0.hx C0.hb dX14_both_1 (by rw [hc12]; decide) (by rw [hc12]; decide) (by rw [hc12]; rfl) (by decide) ?_
                          refine lv_iload_n C0.hx C0.hb dX14_both_142 rfl (lv_at hl 0 rfl) ?_
                          refine lv_bipush (v := (12 : Int32)) C0.hx C0.hb dX14_both_143 (by decide) ?_
                          refine lv_icmp_ne (tgt := 156) C0.hx C0.hb dX14_both_145 (by decide) (fun hc45 => ?_) (fun hc45 => ?_)
                          · replace h := (if_neg hc45).symm.trans h
                            refine lv_iload_n C0.hx C0.hb dX14_both_156 rfl (lv_at hl 0 rfl) ?_
                            refine lv_bipush (v := (13 : Int32)) C0.hx C0.hb dX14_both_157 (by decide) ?_
                            refine lv_icmp_ne (tgt := 170) C0.hx C0.hb dX14_both_159 (by decide) (fun hc46 => ?_) (fun hc46 => ?_)
                            · replace h := (if_neg hc46).symm.trans h
                              refine lv_iload_n C0.hx C0.hb dX14_both_170 rfl (lv_at hl 0 rfl) ?_
                              refine lv_bipush (v := (14 : Int32)) C0.hx C0.hb dX14_both_171 (by decide) ?_
                              refine lv_icmp_ne (tgt := 184) C0.hx C0.hb dX14_both_173 (by decide) (fun hc47 => ?_) (fun hc47 => ?_)
                              · replace h := (if_neg hc47).symm.trans h
                                refine lv_iload_n C0.hx C0.hb dX14_both_184 rfl (lv_at hl 0 rfl) ?_
                                refine lv_bipush (v := (15 : Int32)) C0.hx C0.hb dX14_both_185 (by decide) ?_
                                refine lv_icmp_ne (tgt := 198) C0.hx C0.hb dX14_both_187 (by decide) (fun hc48 => ?_) (fun hc48 => ?_)
                                · replace h := (if_neg hc48).symm.trans h
                                  refine lv_iload_n C0.hx C0.hb dX14_both_198 rfl (lv_at hl 1 rfl) ?_
                                  refine lv_iload_n C0.hx C0.hb dX14_both_199 rfl (lv_at hl 2 rfl) ?_
                                  refine lv_icmp_lt (tgt := 207) C0.hx C0.hb dX14_both_200 (by decide) (fun hc49 => ?_) (fun hc49 => ?_)
                                  · replace h := (if_pos hc49).symm.trans h
                                    refine lv_iconst (v := (0 : Int32)) C0.hx C0.hb dX14_both_207 (by decide) ?_
                                    obtain rfl := Option.some.inj h
                                    exact h_iret C0 hW rfl rfl dX14_both_208
                                  · replace h := (if_neg hc49).symm.trans h
                                    refine lv_iconst (v := (1 : Int32)) C0.hx C0.hb dX14_both_203 (by decide) ?_
                                    refine lv_goto (tgt := 208) C0.hx C0.hb dX14_both_204 (by decide) ?_
                                    obtain rfl := Option.some.inj h
                                    exact h_iret C0 hW rfl rfl dX14_both_208
                                · replace h := (if_pos hc48).symm.trans h
                                  refine lv_iload_n C0.hx C0.hb dX14_both_190 rfl (lv_at hl 1 rfl) ?_
                                  refine lv_iload_n C0.hx C0.hb dX14_both_191 rfl (lv_at hl 2 rfl) ?_
                                  refine lv_icmp_gt (tgt := 207) C0.hx C0.hb dX14_both_192 (by decide) (fun hc50 => ?_) (fun hc50 => ?_)
                                  · replace h := (if_pos hc50).symm.trans h
                                    refine lv_iconst (v := (0 : Int32)) C0.hx C0.hb dX14_both_207 (by decide) ?_
                                    obtain rfl := Option.some.inj h
                                    exact h_iret C0 hW rfl rfl dX14_both_208
                                  · replace h := (if_neg hc50).symm.trans h
                                    refine lv_goto (tgt := 203) C0.hx C0.hb dX14_both_195 (by decide) ?_
                                    refine lv_iconst (v := (1 : Int32)) C0.hx C0.hb dX14_both_203 (by decide) ?_
                                    refine lv_goto (tgt := 208) C0.hx C0.hb dX14_both_204 (by decide) ?_
                                    obtain rfl := Option.some.inj h
                                    exact h_iret C0 hW rfl rfl dX14_both_208
                              · replace h := (if_pos hc47).symm.trans h
                                refine lv_iload_n C0.hx C0.hb dX14_both_176 rfl (lv_at hl 1 rfl) ?_
                                refine lv_iload_n C0.hx C0.hb dX14_both_177 rfl (lv_at hl 2 rfl) ?_
                                refine lv_icmp_ne (tgt := 207) C0.hx C0.hb dX14_both_178 (by decide) (fun hc51 => ?_) (fun hc51 => ?_)
                                · replace h := (if_neg hc51).symm.trans h
                                  refine lv_iconst (v := (0 : Int32)) C0.hx C0.hb dX14_both_207 (by decide) ?_
                                  obtain rfl := Option.some.inj h
                                  exact h_iret C0 hW rfl rfl dX14_both_208
                                · replace h := (if_pos hc51).symm.trans h
                                  refine lv_goto (tgt := 203) C0.hx C0.hb dX14_both_181 (by decide) ?_
                                  refine lv_iconst (v := (1 : Int32)) C0.hx C0.hb dX14_both_203 (by decide) ?_
                                  refine lv_goto (tgt := 208) C0.hx C0.hb dX14_both_204 (by decide) ?_
                                  obtain rfl := Option.some.inj h
                                  exact h_iret C0 hW rfl rfl dX14_both_208
                            · replace h := (if_pos hc46).symm.trans h
                              refine lv_iload_n C0.hx C0.hb dX14_both_162 rfl (lv_at hl 1 rfl) ?_
                              refine lv_iload_n C0.hx C0.hb dX14_both_163 rfl (lv_at hl 2 rfl) ?_
                              refine lv_icmp_le (tgt := 207) C0.hx C0.hb dX14_both_164 (by decide) (fun hc52 => ?_) (fun hc52 => ?_)
                              · replace h := (if_pos hc52).symm.trans h
                                refine lv_iconst (v := (0 : Int32)) C0.hx C0.hb dX14_both_207 (by decide) ?_
                                obtain rfl := Option.some.inj h
                                exact h_iret C0 hW rfl rfl dX14_both_208
                              · replace h := (if_neg hc52).symm.trans h
                                refine lv_goto (tgt := 203) C0.hx C0.hb dX14_both_167 (by decide) ?_
                                refine lv_iconst (v := (1 : Int32)) C0.hx C0.hb dX14_both_203 (by decide) ?_
                                refine lv_goto (tgt := 208) C0.hx C0.hb dX14_both_204 (by decide) ?_
                                obtain rfl := Option.some.inj h
                                exact h_iret C0 hW rfl rfl dX14_both_208
                          · replace h := (if_pos hc45).symm.trans h
                            refine lv_iload_n C0.hx C0.hb dX14_both_148 rfl (lv_at hl 1 rfl) ?_
                            refine lv_iload_n C0.hx C0.hb dX14_both_149 rfl (lv_at hl 2 rfl) ?_
                            refine lv_icmp_ge (tgt := 207) C0.hx C0.hb dX14_both_150 (by decide) (fun hc53 => ?_) (fun hc53 => ?_)
                            · replace h := (if_pos hc53).symm.trans h
                              refine lv_iconst (v := (0 : Int32)) C0.hx C0.hb dX14_both_207 (by decide) ?_
                              obtain rfl := Option.some.inj h
                              exact h_iret C0 hW rfl rfl dX14_both_208
                            · replace h := (if_neg hc53).symm.trans h
                              refine lv_goto (tgt := 203) C0.hx C0.hb dX14_both_153 (by decide) ?_
                              refine lv_iconst (v := (1 : Int32)) C0.hx C0.hb dX14_both_203 (by decide) ?_
                              refine lv_goto (tgt := 208) C0.hx C0.hb dX14_both_204 (by decide) ?_
                              obtain rfl := Option.some.inj h
                              exact h_iret C0 hW rfl rfl dX14_both_208
                        · replace h := (if_neg hc12).symm.trans h
                          by_cases hc13 : p1 = (18 : Int32)
                          · replace h := (if_pos hc13).symm.trans h
                            refine lv_tableIn (tgt := 142) C0.hx C0.hb dX14_both_1 (by rw [hc13]; decide) (by rw [hc13]; decide) (by rw [hc13]; rfl) (by decide) ?_
                            refine lv_iload_n C0.hx C0.hb dX14_both_142 rfl (lv_at hl 0 rfl) ?_
                            refine lv_bipush (v := (12 : Int32)) C0.hx C0.hb dX14_both_143 (by decide) ?_
                            refine lv_icmp_ne (tgt := 156) C0.hx C0.hb dX14_both_145 (by decide) (fun hc36 => ?_) (fun hc36 => ?_)
                            · replace h := (if_neg hc36).symm.trans h
                              refine lv_iload_n C0.hx C0.hb dX14_both_156 rfl (lv_at hl 0 rfl) ?_
                              refine lv_bipush (v := (13 : Int32)) C0.hx C0.hb dX14_both_157 (by decide) ?_
                              refine lv_icmp_ne (tgt := 170) C0.hx C0.hb dX14_both_159 (by decide) (fun hc37 => ?_) (fun hc37 => ?_)
                              · replace h := (if_neg hc37).symm.trans h
                                refine lv_iload_n C0.hx C0.hb dX14_both_170 rfl (lv_at hl 0 rfl) ?_
                                refine lv_bipush (v := (14 : Int32)) C0.hx C0.hb dX14_both_171 (by decide) ?_
                                refine lv_icmp_ne (tgt := 184) C0.hx C0.hb dX14_both_173 (by decide) (fun hc38 => ?_) (fun hc38 => ?_)
                                · replace h := (if_neg hc38).symm.trans h
                                  refine lv_iload_n C0.hx C0.hb dX14_both_184 rfl (lv_at hl 0 rfl) ?_
                                  refine lv_bipush (v := (15 : Int32)) C0.hx C0.hb dX14_both_185 (by decide) ?_
                                  refine lv_icmp_ne (tgt := 198) C0.hx C0.hb dX14_both_187 (by decide) (fun hc39 => ?_) (fun hc39 => ?_)
                                  · replace h := (if_neg hc39).symm.trans h
                                    refine lv_iload_n C0.hx C0.hb dX14_both_198 rfl (lv_at hl 1 rfl) ?_
                                    refine lv_iload_n C0.hx C0.hb dX14_both_199 rfl (lv_at hl 2 rfl) ?_
                                    refine lv_icmp_lt (tgt := 207) C0.hx C0.hb dX14_both_200 (by decide) (fun hc40 => ?_) (fun hc40 => ?_)
                                    · replace h := (if_pos hc40).symm.trans h
                                      refine lv_iconst (v := (0 : Int32)) C0.hx C0.hb dX14_both_207 (by decide) ?_
                                      obtain rfl := Option.some.inj h
                                      exact h_iret C0 hW rfl rfl dX14_both_208
                                    · replace h := (if_neg hc40).symm.trans h
                                      refine lv_iconst (v := (1 : Int32)) C0.hx C0.hb dX14_both_203 (by decide) ?_
                                      refine lv_goto (tgt := 208) C0.hx C0.hb dX14_both_204 (by decide) ?_
                                      obtain rfl := Option.some.inj h
                                      exact h_iret C0 hW rfl rfl dX14_both_208
                                  · replace h := (if_pos hc39).symm.trans h
                                    refine lv_iload_n C0.hx C0.hb dX14_both_190 rfl (lv_at hl 1 rfl) ?_
                                    refine lv_iload_n C0.hx C0.hb dX14_both_191 rfl (lv_at hl 2 rfl) ?_
                                    refine lv_icmp_gt (tgt := 207) C0.hx C0.hb dX14_both_192 (by decide) (fun hc41 => ?_) (fun hc41 => ?_)
                                    · replace h := (if_pos hc41).symm.trans h
                                      refine lv_iconst (v := (0 : Int32)) C0.hx C0.hb dX14_both_207 (by decide) ?_
                                      obtain rfl := Option.some.inj h
                                      exact h_iret C0 hW rfl rfl dX14_both_208
                                    · replace h := (if_neg hc41).symm.trans h
                                      refine lv_goto (tgt := 203) C0.hx C0.hb dX14_both_195 (by decide) ?_
                                      refine lv_iconst (v := (1 : Int32)) C0.hx C0.hb dX14_both_203 (by decide) ?_
                                      refine lv_goto (tgt := 208) C0.hx C0.hb dX14_both_204 (by decide) ?_
                                      obtain rfl := Option.some.inj h
                                      exact h_iret C0 hW rfl rfl dX14_both_208
                                · replace h := (if_pos hc38).symm.trans h
                                  refine lv_iload_n C0.hx C0.hb dX14_both_176 rfl (lv_at hl 1 rfl) ?_
                                  refine lv_iload_n C0.hx C0.hb dX14_both_177 rfl (lv_at hl 2 rfl) ?_
                                  refine lv_icmp_ne (tgt := 207) C0.hx C0.hb dX14_both_178 (by decide) (fun hc42 => ?_) (fun hc42 => ?_)
                                  · replace h := (if_neg hc42).symm.trans h
                                    refine lv_iconst (v := (0 : Int32)) C0.hx C0.hb dX14_both_207 (by decide) ?_
                                    obtain rfl := Option.some.inj h
                                    exact h_iret C0 hW rfl rfl dX14_both_208
                                  · replace h := (if_pos hc42).symm.trans h
                                    refine lv_goto (tgt := 203) C0.hx C0.hb dX14_both_181 (by decide) ?_
                                    refine lv_iconst (v := (1 : Int32)) C0.hx C0.hb dX14_both_203 (by decide) ?_
                                    refine lv_goto (tgt := 208) C0.hx C0.hb dX14_both_204 (by decide) ?_
                                    obtain rfl := Option.some.inj h
                                    exact h_iret C0 hW rfl rfl dX14_both_208
                              · replace h := (if_pos hc37).symm.trans h
                                refine lv_iload_n C0.hx C0.hb dX14_both_162 rfl (lv_at hl 1 rfl) ?_
                                refine lv_iload_n C0.hx C0.hb dX14_both_163 rfl (lv_at hl 2 rfl) ?_
                                refine lv_icmp_le (tgt := 207) C0.hx C0.hb dX14_both_164 (by decide) (fun hc43 => ?_) (fun hc43 => ?_)
                                · replace h := (if_pos hc43).symm.trans h
                                  refine lv_iconst (v := (0 : Int32)) C0.hx C0.hb dX14_both_207 (by decide) ?_
                                  obtain rfl := Option.some.inj h
                                  exact h_iret C0 hW rfl rfl dX14_both_208
                                · replace h := (if_neg hc43).symm.trans h
                                  refine lv_goto (tgt := 203) C0.hx C0.hb dX14_both_167 (by decide) ?_
                                  refine lv_iconst (v := (1 : Int32)) C0.hx C0.hb dX14_both_203 (by decide) ?_
                                  refine lv_goto (tgt := 208) C0.hx C0.hb dX14_both_204 (by decide) ?_
                                  obtain rfl := Option.some.inj h
                                  exact h_iret C0 hW rfl rfl dX14_both_208
                            · replace h := (if_pos hc36).symm.trans h
                              refine lv_iload_n C0.hx C0.hb dX14_both_148 rfl (lv_at hl 1 rfl) ?_
                              refine lv_iload_n C0.hx C0.hb dX14_both_149 rfl (lv_at hl 2 rfl) ?_
                              refine lv_icmp_ge (tgt := 207) C0.hx C0.hb dX14_both_150 (by decide) (fun hc44 => ?_) (fun hc44 => ?_)
                              · replace h := (if_pos hc44).symm.trans h
                                refine lv_iconst (v := (0 : Int32)) C0.hx C0.hb dX14_both_207 (by decide) ?_
                                obtain rfl := Option.some.inj h
                                exact h_iret C0 hW rfl rfl dX14_both_208
                              · replace h := (if_neg hc44).symm.trans h
                                refine lv_goto (tgt := 203) C0.hx C0.hb dX14_both_153 (by decide) ?_
                                refine lv_iconst (v := (1 : Int32)) C0.hx C0.hb dX14_both_203 (by decide) ?_
                                refine lv_goto (tgt := 208) C0.hx C0.hb dX14_both_204 (by decide) ?_
                                obtain rfl := Option.some.inj h
                                exact h_iret C0 hW rfl rfl dX14_both_208
                          · replace h := (if_neg hc13).symm.trans h
                            by_cases hc14 : p1 = (19 : Int32)
                            · replace h := (if_pos hc14).symm.trans h
                              refine lv_tableIn (tgt := 142) C0.hx C0.hb dX14_both_1 (by rw [hc14]; decide) (by rw [hc14]; decide) (by rw [hc14]; rfl) (by decide) ?_
                              refine lv_iload_n C0.hx C0.hb dX14_both_142 rfl (lv_at hl 0 rfl) ?_
                              refine lv_bipush (v := (12 : Int32)) C0.hx C0.hb dX14_both_143 (by decide) ?_
                              refine lv_icmp_ne (tgt := 156) C0.hx C0.hb dX14_both_145 (by decide) (fun hc27 => ?_) (fun hc27 => ?_)
                              · replace h := (if_neg hc27).symm.trans h
                                refine lv_iload_n C0.hx C0.hb dX14_both_156 rfl (lv_at hl 0 rfl) ?_
                                refine lv_bipush (v := (13 : Int32)) C0.hx C0.hb dX14_both_157 (by decide) ?_
                                refine lv_icmp_ne (tgt := 170) C0.hx C0.hb dX14_both_159 (by decide) (fun hc28 => ?_) (fun hc28 => ?_)
                                · replace h := (if_neg hc28).symm.trans h
                                  refine lv_iload_n C0.hx C0.hb dX14_both_170 rfl (lv_at hl 0 rfl) ?_
                                  refine lv_bipush (v := (14 : Int32)) C0.hx C0.hb dX14_both_171 (by decide) ?_
                                  refine lv_icmp_ne (tgt := 184) C0.hx C0.hb dX14_both_173 (by decide) (fun hc29 => ?_) (fun hc29 => ?_)
                                  · replace h := (if_neg hc29).symm.trans h
                                    refine lv_iload_n C0.hx C0.hb dX14_both_184 rfl (lv_at hl 0 rfl) ?_
                                    refine lv_bipush (v := (15 : Int32)) C0.hx C0.hb dX14_both_185 (by decide) ?_
                                    refine lv_icmp_ne (tgt := 198) C0.hx C0.hb dX14_both_187 (by decide) (fun hc30 => ?_) (fun hc30 => ?_)
                                    · replace h := (if_neg hc30).symm.trans h
                                      refine lv_iload_n C0.hx C0.hb dX14_both_198 rfl (lv_at hl 1 rfl) ?_
                                      refine lv_iload_n C0.hx C0.hb dX14_both_199 rfl (lv_at hl 2 rfl) ?_
                                      refine lv_icmp_lt (tgt := 207) C0.hx C0.hb dX14_both_200 (by decide) (fun hc31 => ?_) (fun hc31 => ?_)
                                      · replace h := (if_pos hc31).symm.trans h
                                        refine lv_iconst (v := (0 : Int32)) C0.hx C0.hb dX14_both_207 (by decide) ?_
                                        obtain rfl := Option.some.inj h
                                        exact h_iret C0 hW rfl rfl dX14_both_208
                                      · replace h := (if_neg hc31).symm.trans h
                                        refine lv_iconst (v := (1 : Int32)) C0.hx C0.hb dX14_both_203 (by decide) ?_
                                        refine lv_goto (tgt := 208) C0.hx C0.hb dX14_both_204 (by decide) ?_
                                        obtain rfl := Option.some.inj h
                                        exact h_iret C0 hW rfl rfl dX14_both_208
                                    · replace h := (if_pos hc30).symm.trans h
                                      refine lv_iload_n C0.hx C0.hb dX14_both_190 rfl (lv_at hl 1 rfl) ?_
                                      refine lv_iload_n C0.hx C0.hb dX14_both_191 rfl (lv_at hl 2 rfl) ?_
                                      refine lv_icmp_gt (tgt := 207) C0.hx C0.hb dX14_both_192 (by decide) (fun hc32 => ?_) (fun hc32 => ?_)
                                      · replace h := (if_pos hc32).symm.trans h
                                        refine lv_iconst (v := (0 : Int32)) C0.hx C0.hb dX14_both_207 (by decide) ?_
                                        obtain rfl := Option.some.inj h
                                        exact h_iret C0 hW rfl rfl dX14_both_208
                                      · replace h := (if_neg hc32).symm.trans h
                                        refine lv_goto (tgt := 203) C0.hx C0.hb dX14_both_195 (by decide) ?_
                                        refine lv_iconst (v := (1 : Int32)) C0.hx C0.hb dX14_both_203 (by decide) ?_
                                        refine lv_goto (tgt := 208) C0.hx C0.hb dX14_both_204 (by decide) ?_
                                        obtain rfl := Option.some.inj h
                                        exact h_iret C0 hW rfl rfl dX14_both_208
                                  · replace h := (if_pos hc29).symm.trans h
                                    refine lv_iload_n C0.hx C0.hb dX14_both_176 rfl (lv_at hl 1 rfl) ?_
                                    refine lv_iload_n C0.hx C0.hb dX14_both_177 rfl (lv_at hl 2 rfl) ?_
                                    refine lv_icmp_ne (tgt := 207) C0.hx C0.hb dX14_both_178 (by decide) (fun hc33 => ?_) (fun hc33 => ?_)
                                    · replace h := (if_neg hc33).symm.trans h
                                      refine lv_iconst (v := (0 : Int32)) C0.hx C0.hb dX14_both_207 (by decide) ?_
                                      obtain rfl := Option.some.inj h
                                      exact h_iret C0 hW rfl rfl dX14_both_208
                                    · replace h := (if_pos hc33).symm.trans h
                                      refine lv_goto (tgt := 203) C0.hx C0.hb dX14_both_181 (by decide) ?_
                                      refine lv_iconst (v := (1 : Int32)) C0.hx C0.hb dX14_both_203 (by decide) ?_
                                      refine lv_goto (tgt := 208) C0.hx C0.hb dX14_both_204 (by decide) ?_
                                      obtain rfl := Option.some.inj h
                                      exact h_iret C0 hW rfl rfl dX14_both_208
                                · replace h := (if_pos hc28).symm.trans h
                                  refine lv_iload_n C0.hx C0.hb dX14_both_162 rfl (lv_at hl 1 rfl) ?_
                                  refine lv_iload_n C0.hx C0.hb dX14_both_163 rfl (lv_at hl 2 rfl) ?_
                                  refine lv_icmp_le (tgt := 207) C0.hx C0.hb dX14_both_164 (by decide) (fun hc34 => ?_) (fun hc34 => ?_)
                                  · replace h := (if_pos hc34).symm.trans h
                                    refine lv_iconst (v := (0 : Int32)) C0.hx C0.hb dX14_both_207 (by decide) ?_
                                    obtain rfl := Option.some.inj h
                                    exact h_iret C0 hW rfl rfl dX14_both_208
                                  · replace h := (if_neg hc34).symm.trans h
                                    refine lv_goto (tgt := 203) C0.hx C0.hb dX14_both_167 (by decide) ?_
                                    refine lv_iconst (v := (1 : Int32)) C0.hx C0.hb dX14_both_203 (by decide) ?_
                                    refine lv_goto (tgt := 208) C0.hx C0.hb dX14_both_204 (by decide) ?_
                                    obtain rfl := Option.some.inj h
                                    exact h_iret C0 hW rfl rfl dX14_both_208
                              · replace h := (if_pos hc27).symm.trans h
                                refine lv_iload_n C0.hx C0.hb dX14_both_148 rfl (lv_at hl 1 rfl) ?_
                                refine lv_iload_n C0.hx C0.hb dX14_both_149 rfl (lv_at hl 2 rfl) ?_
                                refine lv_icmp_ge (tgt := 207) C0.hx C0.hb dX14_both_150 (by decide) (fun hc35 => ?_) (fun hc35 => ?_)
                                · replace h := (if_pos hc35).symm.trans h
                                  refine lv_iconst (v := (0 : Int32)) C0.hx C0.hb dX14_both_207 (by decide) ?_
                                  obtain rfl := Option.some.inj h
                                  exact h_iret C0 hW rfl rfl dX14_both_208
                                · replace h := (if_neg hc35).symm.trans h
                                  refine lv_goto (tgt := 203) C0.hx C0.hb dX14_both_153 (by decide) ?_
                                  refine lv_iconst (v := (1 : Int32)) C0.hx C0.hb dX14_both_203 (by decide) ?_
                                  refine lv_goto (tgt := 208) C0.hx C0.hb dX14_both_204 (by decide) ?_
                                  obtain rfl := Option.some.inj h
                                  exact h_iret C0 hW rfl rfl dX14_both_208
                            · replace h := (if_neg hc14).symm.trans h
                              by_cases hc15 : p1 = (20 : Int32)
                              · replace h := (if_pos hc15).symm.trans h
                                refine lv_tableIn (tgt := 126) C0.hx C0.hb dX14_both_1 (by rw [hc15]; decide) (by rw [hc15]; decide) (by rw [hc15]; rfl) (by decide) ?_
                                refine lv_iload_n C0.hx C0.hb dX14_both_126 rfl (lv_at hl 1 rfl) ?_
                                refine lv_iload_n C0.hx C0.hb dX14_both_127 rfl (lv_at hl 2 rfl) ?_
                                refine lv_imul C0.hx C0.hb dX14_both_128 ?_
                                obtain rfl := Option.some.inj h
                                exact h_iret C0 hW rfl rfl dX14_both_129
                              · replace h := (if_neg hc15).symm.trans h
                                by_cases hc16 : p1 = (21 : Int32)
                                · replace h := (if_pos hc16).symm.trans h
                                  refine lv_tableIn (tgt := 130) C0.hx C0.hb dX14_both_1 (by rw [hc16]; decide) (by rw [hc16]; decide) (by rw [hc16]; rfl) (by decide) ?_
                                  refine lv_iload_n C0.hx C0.hb dX14_both_130 rfl (lv_at hl 1 rfl) ?_
                                  refine lv_iload_n C0.hx C0.hb dX14_both_131 rfl (lv_at hl 2 rfl) ?_
                                  refine lv_iadd C0.hx C0.hb dX14_both_132 ?_
                                  refine lv_if_le (tgt := 140) C0.hx C0.hb dX14_both_133 (by decide) (fun hc26 => ?_) (fun hc26 => ?_)
                                  · replace h := (if_pos hc26).symm.trans h
                                    refine lv_iconst (v := (0 : Int32)) C0.hx C0.hb dX14_both_140 (by decide) ?_
                                    obtain rfl := Option.some.inj h
                                    exact h_iret C0 hW rfl rfl dX14_both_141
                                  · replace h := (if_neg hc26).symm.trans h
                                    refine lv_iconst (v := (1 : Int32)) C0.hx C0.hb dX14_both_136 (by decide) ?_
                                    refine lv_goto (tgt := 141) C0.hx C0.hb dX14_both_137 (by decide) ?_
                                    obtain rfl := Option.some.inj h
                                    exact h_iret C0 hW rfl rfl dX14_both_141
                                · replace h := (if_neg hc16).symm.trans h
                                  refine lv_tableOut (tgt := 142) C0.hx C0.hb dX14_both_1 (g_sw_X14_both_1 hc1 hc2 hc3 hc4 hc5 hc6 hc7 hc8 hc9 hc10 hc11 hc12 hc13 hc14 hc15 hc16) (by decide) ?_
                                  refine lv_iload_n C0.hx C0.hb dX14_both_142 rfl (lv_at hl 0 rfl) ?_
                                  refine lv_bipush (v := (12 : Int32)) C0.hx C0.hb dX14_both_143 (by decide) ?_
                                  refine lv_icmp_ne (tgt := 156) C0.hx C0.hb dX14_both_145 (by decide) (fun hc17 => ?_) (fun hc17 => ?_)
                                  · replace h := (if_neg hc17).symm.trans h
                                    refine lv_iload_n C0.hx C0.hb dX14_both_156 rfl (lv_at hl 0 rfl) ?_
                                    refine lv_bipush (v := (13 : Int32)) C0.hx C0.hb dX14_both_157 (by decide) ?_
                                    refine lv_icmp_ne (tgt := 170) C0.hx C0.hb dX14_both_159 (by decide) (fun hc18 => ?_) (fun hc18 => ?_)
                                    · replace h := (if_neg hc18).symm.trans h
                                      refine lv_iload_n C0.hx C0.hb dX14_both_170 rfl (lv_at hl 0 rfl) ?_
                                      refine lv_bipush (v := (14 : Int32)) C0.hx C0.hb dX14_both_171 (by decide) ?_
                                      refine lv_icmp_ne (tgt := 184) C0.hx C0.hb dX14_both_173 (by decide) (fun hc19 => ?_) (fun hc19 => ?_)
                                      · replace h := (if_neg hc19).symm.trans h
                                        refine lv_iload_n C0.hx C0.hb dX14_both_184 rfl (lv_at hl 0 rfl) ?_
                                        refine lv_bipush (v := (15 : Int32)) C0.hx C0.hb dX14_both_185 (by decide) ?_
                                        refine lv_icmp_ne (tgt := 198) C0.hx C0.hb dX14_both_187 (by decide) (fun hc20 => ?_) (fun hc20 => ?_)
                                        · replace h := (if_neg hc20).symm.trans h
                                          refine lv_iload_n C0.hx C0.hb dX14_both_198 rfl (lv_at hl 1 rfl) ?_
                                          refine lv_iload_n C0.hx C0.hb dX14_both_199 rfl (lv_at hl 2 rfl) ?_
                                          refine lv_icmp_lt (tgt := 207) C0.hx C0.hb dX14_both_200 (by decide) (fun hc21 => ?_) (fun hc21 => ?_)
                                          · replace h := (if_pos hc21).symm.trans h
                                            refine lv_iconst (v := (0 : Int32)) C0.hx C0.hb dX14_both_207 (by decide) ?_
                                            obtain rfl := Option.some.inj h
                                            exact h_iret C0 hW rfl rfl dX14_both_208
                                          · replace h := (if_neg hc21).symm.trans h
                                            refine lv_iconst (v := (1 : Int32)) C0.hx C0.hb dX14_both_203 (by decide) ?_
                                            refine lv_goto (tgt := 208) C0.hx C0.hb dX14_both_204 (by decide) ?_
                                            obtain rfl := Option.some.inj h
                                            exact h_iret C0 hW rfl rfl dX14_both_208
                                        · replace h := (if_pos hc20).symm.trans h
                                          refine lv_iload_n C0.hx C0.hb dX14_both_190 rfl (lv_at hl 1 rfl) ?_
                                          refine lv_iload_n C0.hx C0.hb dX14_both_191 rfl (lv_at hl 2 rfl) ?_
                                          refine lv_icmp_gt (tgt := 207) C0.hx C0.hb dX14_both_192 (by decide) (fun hc22 => ?_) (fun hc22 => ?_)
                                          · replace h := (if_pos hc22).symm.trans h
                                            refine lv_iconst (v := (0 : Int32)) C0.hx C0.hb dX14_both_207 (by decide) ?_
                                            obtain rfl := Option.some.inj h
                                            exact h_iret C0 hW rfl rfl dX14_both_208
                                          · replace h := (if_neg hc22).symm.trans h
                                            refine lv_goto (tgt := 203) C0.hx C0.hb dX14_both_195 (by decide) ?_
                                            refine lv_iconst (v := (1 : Int32)) C0.hx C0.hb dX14_both_203 (by decide) ?_
                                            refine lv_goto (tgt := 208) C0.hx C0.hb dX14_both_204 (by decide) ?_
                                            obtain rfl := Option.some.inj h
                                            exact h_iret C0 hW rfl rfl dX14_both_208
                                      · replace h := (if_pos hc19).symm.trans h
                                        refine lv_iload_n C0.hx C0.hb dX14_both_176 rfl (lv_at hl 1 rfl) ?_
                                        refine lv_iload_n C0.hx C0.hb dX14_both_177 rfl (lv_at hl 2 rfl) ?_
                                        refine lv_icmp_ne (tgt := 207) C0.hx C0.hb dX14_both_178 (by decide) (fun hc23 => ?_) (fun hc23 => ?_)
                                        · replace h := (if_neg hc23).symm.trans h
                                          refine lv_iconst (v := (0 : Int32)) C0.hx C0.hb dX14_both_207 (by decide) ?_
                                          obtain rfl := Option.some.inj h
                                          exact h_iret C0 hW rfl rfl dX14_both_208
                                        · replace h := (if_pos hc23).symm.trans h
                                          refine lv_goto (tgt := 203) C0.hx C0.hb dX14_both_181 (by decide) ?_
                                          refine lv_iconst (v := (1 : Int32)) C0.hx C0.hb dX14_both_203 (by decide) ?_
                                          refine lv_goto (tgt := 208) C0.hx C0.hb dX14_both_204 (by decide) ?_
                                          obtain rfl := Option.some.inj h
                                          exact h_iret C0 hW rfl rfl dX14_both_208
                                    · replace h := (if_pos hc18).symm.trans h
                                      refine lv_iload_n C0.hx C0.hb dX14_both_162 rfl (lv_at hl 1 rfl) ?_
                                      refine lv_iload_n C0.hx C0.hb dX14_both_163 rfl (lv_at hl 2 rfl) ?_
                                      refine lv_icmp_le (tgt := 207) C0.hx C0.hb dX14_both_164 (by decide) (fun hc24 => ?_) (fun hc24 => ?_)
                                      · replace h := (if_pos hc24).symm.trans h
                                        refine lv_iconst (v := (0 : Int32)) C0.hx C0.hb dX14_both_207 (by decide) ?_
                                        obtain rfl := Option.some.inj h
                                        exact h_iret C0 hW rfl rfl dX14_both_208
                                      · replace h := (if_neg hc24).symm.trans h
                                        refine lv_goto (tgt := 203) C0.hx C0.hb dX14_both_167 (by decide) ?_
                                        refine lv_iconst (v := (1 : Int32)) C0.hx C0.hb dX14_both_203 (by decide) ?_
                                        refine lv_goto (tgt := 208) C0.hx C0.hb dX14_both_204 (by decide) ?_
                                        obtain rfl := Option.some.inj h
                                        exact h_iret C0 hW rfl rfl dX14_both_208
                                  · replace h := (if_pos hc17).symm.trans h
                                    refine lv_iload_n C0.hx C0.hb dX14_both_148 rfl (lv_at hl 1 rfl) ?_
                                    refine lv_iload_n C0.hx C0.hb dX14_both_149 rfl (lv_at hl 2 rfl) ?_
                                    refine lv_icmp_ge (tgt := 207) C0.hx C0.hb dX14_both_150 (by decide) (fun hc25 => ?_) (fun hc25 => ?_)
                                    · replace h := (if_pos hc25).symm.trans h
                                      refine lv_iconst (v := (0 : Int32)) C0.hx C0.hb dX14_both_207 (by decide) ?_
                                      obtain rfl := Option.some.inj h
                                      exact h_iret C0 hW rfl rfl dX14_both_208
                                    · replace h := (if_neg hc25).symm.trans h
                                      refine lv_goto (tgt := 203) C0.hx C0.hb dX14_both_153 (by decide) ?_
                                      refine lv_iconst (v := (1 : Int32)) C0.hx C0.hb dX14_both_203 (by decide) ?_
                                      refine lv_goto (tgt := 208) C0.hx C0.hb dX14_both_204 (by decide) ?_
                                      obtain rfl := Option.some.inj h
                                      exact h_iret C0 hW rfl rfl dX14_both_208
