theorem dX13_init_0 : decode cX13_init 0 = .ok (.aload_n 0, 1) := by decide +kernel
theorem dX13_init_1 : decode cX13_init 1 = .ok (.invokespecial 1, 3) := by decide +kernel
theorem dX13_init_4 : decode cX13_init 4 = .ok (.aload_n 0, 1) := by decide +kernel
theorem dX13_init_5 : decode cX13_init 5 = .ok (.iload_n 1, 1) := by decide +kernel
theorem dX13_init_6 : decode cX13_init 6 = .ok (.putfield 7, 3) := by decide +kernel
theorem dX13_init_9 : decode cX13_init 9 = .ok (.return_, 1) := by decide +kernel
theorem dX13_next_0 : decode cX13_next 0 = .ok (.aload_n 0, 1) := by decide +kernel
theorem dX13_next_1 : decode cX13_next 1 = .ok (.aload_n 0, 1) := by decide +kernel
theorem dX13_next_2 : decode cX13_next 2 = .ok (.getfield 7, 3) := by decide +kernel
theorem dX13_next_5 : decode cX13_next 5 = .ok (.ldc 13, 2) := by decide +kernel
theorem dX13_next_7 : decode cX13_next 7 = .ok (.imul, 1) := by decide +kernel
theorem dX13_next_8 : decode cX13_next 8 = .ok (.sipush 12345, 3) := by decide +kernel
theorem dX13_next_11 : decode cX13_next 11 = .ok (.iadd, 1) := by decide +kernel
theorem dX13_next_12 : decode cX13_next 12 = .ok (.putfield 7, 3) := by decide +kernel
theorem dX13_next_15 : decode cX13_next 15 = .ok (.aload_n 0, 1) := by decide +kernel
theorem dX13_next_16 : decode cX13_next 16 = .ok (.getfield 7, 3) := by decide +kernel
theorem dX13_next_19 : decode cX13_next 19 = .ok (.bipush 9, 2) := by decide +kernel
theorem dX13_next_21 : decode cX13_next 21 = .ok (.ishr, 1) := by decide +kernel
theorem dX13_next_22 : decode cX13_next 22 = .ok (.iload_n 1, 1) := by decide +kernel
theorem dX13_next_23 : decode cX13_next 23 = .ok (.invokestatic 14, 3) := by decide +kernel
theorem dX13_next_26 : decode cX13_next 26 = .ok (.ireturn, 1) := by decide +kernel
theorem dX14_init_0 : decode cX14_init 0 = .ok (.aload_n 0, 1) := by decide +kernel
theorem dX14_init_1 : decode cX14_init 1 = .ok (.invokespecial 1, 3) := by decide +kernel
theorem dX14_init_4 : decode cX14_init 4 = .ok (.aload_n 0, 1) := by decide +kernel
theorem dX14_init_5 : decode cX14_init 5 = .ok (.iload_n 1, 1) := by decide +kernel
theorem dX14_init_6 : decode cX14_init 6 = .ok (.putfield 7, 3) := by decide +kernel
theorem dX14_init_9 : decode cX14_init 9 = .ok (.aload_n 0, 1) := by decide +kernel
theorem dX14_init_10 : decode cX14_init 10 = .ok (.iload_n 2, 1) := by decide +kernel
theorem dX14_init_11 : decode cX14_init 11 = .ok (.putfield 13, 3) := by decide +kernel
theorem dX14_init_14 : decode cX14_init 14 = .ok (.aload_n 0, 1) := by decide +kernel
theorem dX14_init_15 : decode cX14_init 15 = .ok (.aload_n 3, 1) := by decide +kernel
theorem dX14_init_16 : decode cX14_init 16 = .ok (.putfield 16, 3) := by decide +kernel
theorem dX14_init_19 : decode cX14_init 19 = .ok (.aload_n 0, 1) := by decide +kernel
theorem dX14_init_20 : decode cX14_init 20 = .ok (.aload 4, 2) := by decide +kernel
theorem dX14_init_22 : decode cX14_init 22 = .ok (.putfield 20, 3) := by decide +kernel
theorem dX14_init_25 : decode cX14_init 25 = .ok (.return_, 1) := by decide +kernel
theorem dX14_sum_0 : decode cX14_sum 0 = .ok (.aload_n 0, 1) := by decide +kernel
theorem dX14_sum_1 : decode cX14_sum 1 = .ok (.iload_n 2, 1) := by decide +kernel
theorem dX14_sum_2 : decode cX14_sum 2 = .ok (.ifCond .ne 7, 3) := by decide +kernel
theorem dX14_sum_5 : decode cX14_sum 5 = .ok (.iconst 5, 1) := by decide +kernel
theorem dX14_sum_6 : decode cX14_sum 6 = .ok (.goto 5, 3) := by decide +kernel
theorem dX14_sum_9 : decode cX14_sum 9 = .ok (.bipush 12, 2) := by decide +kernel
theorem dX14_sum_11 : decode cX14_sum 11 = .ok (.invokevirtual 23, 3) := by decide +kernel
theorem dX14_sum_14 : decode cX14_sum 14 = .ok (.istore_n 3, 1) := by decide +kernel
theorem dX14_sum_15 : decode cX14_sum 15 = .ok (.iload_n 3, 1) := by decide +kernel
theorem dX14_sum_16 : decode cX14_sum 16 = .ok (.iconst 5, 1) := by decide +kernel
theorem dX14_sum_17 : decode cX14_sum 17 = .ok (.if_icmp .ge 50, 3) := by decide +kernel
theorem dX14_sum_20 : decode cX14_sum 20 = .ok (.new 8, 3) := by decide +kernel
theorem dX14_sum_23 : decode cX14_sum 23 = .ok (.dup, 1) := by decide +kernel
theorem dX14_sum_24 : decode cX14_sum 24 = .ok (.iload_n 3, 1) := by decide +kernel
theorem dX14_sum_25 : decode cX14_sum 25 = .ok (.iload_n 3, 1) := by decide +kernel
theorem dX14_sum_26 : decode cX14_sum 26 = .ok (.ifCond .le 11, 3) := by decide +kernel
theorem dX14_sum_29 : decode cX14_sum 29 = .ok (.aload_n 0, 1) := by decide +kernel
theorem dX14_sum_30 : decode cX14_sum 30 = .ok (.iload_n 1, 1) := by decide +kernel
theorem dX14_sum_31 : decode cX14_sum 31 = .ok (.invokevirtual 23, 3) := by decide +kernel
theorem dX14_sum_34 : decode cX14_sum 34 = .ok (.goto 27, 3) := by decide +kernel
theorem dX14_sum_37 : decode cX14_sum 37 = .ok (.aload_n 0, 1) := by decide +kernel
theorem dX14_sum_38 : decode cX14_sum 38 = .ok (.bipush 7, 2) := by decide +kernel
theorem dX14_sum_40 : decode cX14_sum 40 = .ok (.invokevirtual 23, 3) := by decide +kernel
theorem dX14_sum_43 : decode cX14_sum 43 = .ok (.ifCond .ne 12, 3) := by decide +kernel
theorem dX14_sum_46 : decode cX14_sum 46 = .ok (.aload_n 0, 1) := by decide +kernel
theorem dX14_sum_47 : decode cX14_sum 47 = .ok (.ldc 29, 2) := by decide +kernel
theorem dX14_sum_49 : decode cX14_sum 49 = .ok (.invokevirtual 23, 3) := by decide +kernel
theorem dX14_sum_52 : decode cX14_sum 52 = .ok (.goto 9, 3) := by decide +kernel
theorem dX14_sum_55 : decode cX14_sum 55 = .ok (.aload_n 0, 1) := by decide +kernel
theorem dX14_sum_56 : decode cX14_sum 56 = .ok (.bipush 20, 2) := by decide +kernel
theorem dX14_sum_58 : decode cX14_sum 58 = .ok (.invokevirtual 23, 3) := by decide +kernel
theorem dX14_sum_61 : decode cX14_sum 61 = .ok (.aconst_null, 1) := by decide +kernel
theorem dX14_sum_62 : decode cX14_sum 62 = .ok (.aconst_null, 1) := by decide +kernel
theorem dX14_sum_63 : decode cX14_sum 63 = .ok (.invokespecial 30, 3) := by decide +kernel
theorem dX14_sum_66 : decode cX14_sum 66 = .ok (.areturn, 1) := by decide +kernel
theorem dX14_sum_67 : decode cX14_sum 67 = .ok (.aload_n 0, 1) := by decide +kernel
theorem dX14_sum_68 : decode cX14_sum 68 = .ok (.iload_n 1, 1) := by decide +kernel
theorem dX14_sum_69 : decode cX14_sum 69 = .ok (.iload_n 2, 1) := by decide +kernel
theorem dX14_sum_70 : decode cX14_sum 70 = .ok (.iconst 1, 1) := by decide +kernel
theorem dX14_sum_71 : decode cX14_sum 71 = .ok (.isub, 1) := by decide +kernel
theorem dX14_sum_72 : decode cX14_sum 72 = .ok (.invokestatic 33, 3) := by decide +kernel
theorem dX14_sum_75 : decode cX14_sum 75 = .ok (.astore 4, 2) := by decide +kernel
theorem dX14_sum_77 : decode cX14_sum 77 = .ok (.new 8, 3) := by decide +kernel
theorem dX14_sum_80 : decode cX14_sum 80 = .ok (.dup, 1) := by decide +kernel
theorem dX14_sum_81 : decode cX14_sum 81 = .ok (.iload_n 3, 1) := by decide +kernel
theorem dX14_sum_82 : decode cX14_sum 82 = .ok (.iconst 0, 1) := by decide +kernel
theorem dX14_sum_83 : decode cX14_sum 83 = .ok (.aload 4, 2) := by decide +kernel
theorem dX14_sum_85 : decode cX14_sum 85 = .ok (.iload_n 3, 1) := by decide +kernel
theorem dX14_sum_86 : decode cX14_sum 86 = .ok (.iconst 5, 1) := by decide +kernel
theorem dX14_sum_87 : decode cX14_sum 87 = .ok (.if_icmp .ne 7, 3) := by decide +kernel
theorem dX14_sum_90 : decode cX14_sum 90 = .ok (.aconst_null, 1) := by decide +kernel
theorem dX14_sum_91 : decode cX14_sum 91 = .ok (.goto 11, 3) := by decide +kernel
theorem dX14_sum_94 : decode cX14_sum 94 = .ok (.aload_n 0, 1) := by decide +kernel
theorem dX14_sum_95 : decode cX14_sum 95 = .ok (.iload_n 1, 1) := by decide +kernel
theorem dX14_sum_96 : decode cX14_sum 96 = .ok (.iload_n 2, 1) := by decide +kernel
theorem dX14_sum_97 : decode cX14_sum 97 = .ok (.iconst 1, 1) := by decide +kernel
theorem dX14_sum_98 : decode cX14_sum 98 = .ok (.isub, 1) := by decide +kernel
theorem dX14_sum_99 : decode cX14_sum 99 = .ok (.invokestatic 33, 3) := by decide +kernel
theorem dX14_sum_102 : decode cX14_sum 102 = .ok (.invokespecial 30, 3) := by decide +kernel
theorem dX14_sum_105 : decode cX14_sum 105 = .ok (.areturn, 1) := by decide +kernel
theorem dX14_test_0 : decode cX14_test 0 = .ok (.aload_n 0, 1) := by decide +kernel
theorem dX14_test_1 : decode cX14_test 1 = .ok (.iload_n 2, 1) := by decide +kernel
theorem dX14_test_2 : decode cX14_test 2 = .ok (.ifCond .ne 7, 3) := by decide +kernel
theorem dX14_test_5 : decode cX14_test 5 = .ok (.iconst 5, 1) := by decide +kernel
theorem dX14_test_6 : decode cX14_test 6 = .ok (.goto 5, 3) := by decide +kernel
theorem dX14_test_9 : decode cX14_test 9 = .ok (.bipush 8, 2) := by decide +kernel
theorem dX14_test_11 : decode cX14_test 11 = .ok (.invokevirtual 23, 3) := by decide +kernel
theorem dX14_test_14 : decode cX14_test 14 = .ok (.istore_n 3, 1) := by decide +kernel
theorem dX14_test_15 : decode cX14_test 15 = .ok (.iload_n 3, 1) := by decide +kernel
theorem dX14_test_16 : decode cX14_test 16 = .ok (.iconst 2, 1) := by decide +kernel
theorem dX14_test_17 : decode cX14_test 17 = .ok (.if_icmp .ge 22, 3) := by decide +kernel
theorem dX14_test_20 : decode cX14_test 20 = .ok (.new 8, 3) := by decide +kernel
theorem dX14_test_23 : decode cX14_test 23 = .ok (.dup, 1) := by decide +kernel
theorem dX14_test_24 : decode cX14_test 24 = .ok (.bipush 17, 2) := by decide +kernel
theorem dX14_test_26 : decode cX14_test 26 = .ok (.iload_n 3, 1) := by decide +kernel
theorem dX14_test_27 : decode cX14_test 27 = .ok (.iadd, 1) := by decide +kernel
theorem dX14_test_28 : decode cX14_test 28 = .ok (.aload_n 0, 1) := by decide +kernel
theorem dX14_test_29 : decode cX14_test 29 = .ok (.iload_n 1, 1) := by decide +kernel
theorem dX14_test_30 : decode cX14_test 30 = .ok (.invokevirtual 23, 3) := by decide +kernel
theorem dX14_test_33 : decode cX14_test 33 = .ok (.aconst_null, 1) := by decide +kernel
theorem dX14_test_34 : decode cX14_test 34 = .ok (.aconst_null, 1) := by decide +kernel
theorem dX14_test_35 : decode cX14_test 35 = .ok (.invokespecial 30, 3) := by decide +kernel
theorem dX14_test_38 : decode cX14_test 38 = .ok (.areturn, 1) := by decide +kernel
theorem dX14_test_39 : decode cX14_test 39 = .ok (.iload_n 3, 1) := by decide +kernel
theorem dX14_test_40 : decode cX14_test 40 = .ok (.iconst 5, 1) := by decide +kernel
theorem dX14_test_41 : decode cX14_test 41 = .ok (.if_icmp .ge 32, 3) := by decide +kernel
theorem dX14_test_44 : decode cX14_test 44 = .ok (.new 8, 3) := by decide +kernel
theorem dX14_test_47 : decode cX14_test 47 = .ok (.dup, 1) := by decide +kernel
theorem dX14_test_48 : decode cX14_test 48 = .ok (.bipush 12, 2) := by decide +kernel
theorem dX14_test_50 : decode cX14_test 50 = .ok (.aload_n 0, 1) := by decide +kernel
theorem dX14_test_51 : decode cX14_test 51 = .ok (.iconst 5, 1) := by decide +kernel
theorem dX14_test_52 : decode cX14_test 52 = .ok (.invokevirtual 23, 3) := by decide +kernel
theorem dX14_test_55 : decode cX14_test 55 = .ok (.iadd, 1) := by decide +kernel
theorem dX14_test_56 : decode cX14_test 56 = .ok (.iconst 0, 1) := by decide +kernel
theorem dX14_test_57 : decode cX14_test 57 = .ok (.aload_n 0, 1) := by decide +kernel
theorem dX14_test_58 : decode cX14_test 58 = .ok (.iload_n 1, 1) := by decide +kernel
theorem dX14_test_59 : decode cX14_test 59 = .ok (.iconst 1, 1) := by decide +kernel
theorem dX14_test_60 : decode cX14_test 60 = .ok (.invokestatic 33, 3) := by decide +kernel
theorem dX14_test_63 : decode cX14_test 63 = .ok (.aload_n 0, 1) := by decide +kernel
theorem dX14_test_64 : decode cX14_test 64 = .ok (.iload_n 1, 1) := by decide +kernel
theorem dX14_test_65 : decode cX14_test 65 = .ok (.iconst 0, 1) := by decide +kernel
theorem dX14_test_66 : decode cX14_test 66 = .ok (.invokestatic 33, 3) := by decide +kernel
theorem dX14_test_69 : decode cX14_test 69 = .ok (.invokespecial 30, 3) := by decide +kernel
theorem dX14_test_72 : decode cX14_test 72 = .ok (.areturn, 1) := by decide +kernel
theorem dX14_test_73 : decode cX14_test 73 = .ok (.aload_n 0, 1) := by decide +kernel
theorem dX14_test_74 : decode cX14_test 74 = .ok (.iload_n 1, 1) := by decide +kernel
theorem dX14_test_75 : decode cX14_test 75 = .ok (.iload_n 2, 1) := by decide +kernel
theorem dX14_test_76 : decode cX14_test 76 = .ok (.iconst 1, 1) := by decide +kernel
theorem dX14_test_77 : decode cX14_test 77 = .ok (.isub, 1) := by decide +kernel
theorem dX14_test_78 : decode cX14_test 78 = .ok (.invokestatic 37, 3) := by decide +kernel
theorem dX14_test_81 : decode cX14_test 81 = .ok (.astore 4, 2) := by decide +kernel
theorem dX14_test_83 : decode cX14_test 83 = .ok (.new 8, 3) := by decide +kernel
theorem dX14_test_86 : decode cX14_test 86 = .ok (.dup, 1) := by decide +kernel
theorem dX14_test_87 : decode cX14_test 87 = .ok (.bipush 14, 2) := by decide +kernel
theorem dX14_test_89 : decode cX14_test 89 = .ok (.iload_n 3, 1) := by decide +kernel
theorem dX14_test_90 : decode cX14_test 90 = .ok (.iadd, 1) := by decide +kernel
theorem dX14_test_91 : decode cX14_test 91 = .ok (.iconst 0, 1) := by decide +kernel
theorem dX14_test_92 : decode cX14_test 92 = .ok (.aload 4, 2) := by decide +kernel
theorem dX14_test_94 : decode cX14_test 94 = .ok (.iload_n 3, 1) := by decide +kernel
theorem dX14_test_95 : decode cX14_test 95 = .ok (.iconst 5, 1) := by decide +kernel
theorem dX14_test_96 : decode cX14_test 96 = .ok (.if_icmp .ne 7, 3) := by decide +kernel
theorem dX14_test_99 : decode cX14_test 99 = .ok (.aconst_null, 1) := by decide +kernel
theorem dX14_test_100 : decode cX14_test 100 = .ok (.goto 11, 3) := by decide +kernel
theorem dX14_test_103 : decode cX14_test 103 = .ok (.aload_n 0, 1) := by decide +kernel
theorem dX14_test_104 : decode cX14_test 104 = .ok (.iload_n 1, 1) := by decide +kernel
theorem dX14_test_105 : decode cX14_test 105 = .ok (.iload_n 2, 1) := by decide +kernel
theorem dX14_test_106 : decode cX14_test 106 = .ok (.iconst 1, 1) := by decide +kernel
theorem dX14_test_107 : decode cX14_test 107 = .ok (.isub, 1) := by decide +kernel
theorem dX14_test_108 : decode cX14_test 108 = .ok (.invokestatic 37, 3) := by decide +kernel
theorem dX14_test_111 : decode cX14_test 111 = .ok (.invokespecial 30, 3) := by decide +kernel
theorem dX14_test_114 : decode cX14_test 114 = .ok (.areturn, 1) := by decide +kernel
theorem dX14_text_0 : decode cX14_text 0 = .ok (.aload_n 0, 1) := by decide +kernel
theorem dX14_text_1 : decode cX14_text 1 = .ok (.getfield 7, 3) := by decide +kernel
theorem dX14_text_4 : decode cX14_text 4 = .ok (.tableswitch 461 0 21 #[104, 127, 130, 133, 156, 179, 205, 251, 461, 461, 461, 461, 461, 461, 461, 461, 461, 297, 320, 343, 369, 415], 104) := by decide +kernel
theorem dX14_text_108 : decode cX14_text 108 = .ok (.new 40, 3) := by decide +kernel
theorem dX14_text_111 : decode cX14_text 111 = .ok (.dup, 1) := by decide +kernel
theorem dX14_text_112 : decode cX14_text 112 = .ok (.invokespecial 42, 3) := by decide +kernel
theorem dX14_text_115 : decode cX14_text 115 = .ok (.ldc 43, 2) := by decide +kernel
theorem dX14_text_117 : decode cX14_text 117 = .ok (.invokevirtual 45, 3) := by decide +kernel
theorem dX14_text_120 : decode cX14_text 120 = .ok (.aload_n 0, 1) := by decide +kernel
theorem dX14_text_121 : decode cX14_text 121 = .ok (.getfield 13, 3) := by decide +kernel
theorem dX14_text_124 : decode cX14_text 124 = .ok (.invokevirtual 49, 3) := by decide +kernel
theorem dX14_text_127 : decode cX14_text 127 = .ok (.invokevirtual 52, 3) := by decide +kernel
theorem dX14_text_130 : decode cX14_text 130 = .ok (.areturn, 1) := by decide +kernel
theorem dX14_text_131 : decode cX14_text 131 = .ok (.ldc 56, 2) := by decide +kernel
theorem dX14_text_133 : decode cX14_text 133 = .ok (.areturn, 1) := by decide +kernel
theorem dX14_text_134 : decode cX14_text 134 = .ok (.ldc 58, 2) := by decide +kernel
theorem dX14_text_136 : decode cX14_text 136 = .ok (.areturn, 1) := by decide +kernel
theorem dX14_text_137 : decode cX14_text 137 = .ok (.new 40, 3) := by decide +kernel
theorem dX14_text_140 : decode cX14_text 140 = .ok (.dup, 1) := by decide +kernel
theorem dX14_text_141 : decode cX14_text 141 = .ok (.invokespecial 42, 3) := by decide +kernel
theorem dX14_text_144 : decode cX14_text 144 = .ok (.ldc 60, 2) := by decide +kernel
theorem dX14_text_146 : decode cX14_text 146 = .ok (.invokevirtual 45, 3) := by decide +kernel
theorem dX14_text_149 : decode cX14_text 149 = .ok (.aload_n 0, 1) := by decide +kernel
theorem dX14_text_150 : decode cX14_text 150 = .ok (.getfield 13, 3) := by decide +kernel
theorem dX14_text_153 : decode cX14_text 153 = .ok (.invokevirtual 49, 3) := by decide +kernel
theorem dX14_text_156 : decode cX14_text 156 = .ok (.invokevirtual 52, 3) := by decide +kernel
theorem dX14_text_159 : decode cX14_text 159 = .ok (.areturn, 1) := by decide +kernel
theorem dX14_text_160 : decode cX14_text 160 = .ok (.new 40, 3) := by decide +kernel
theorem dX14_text_163 : decode cX14_text 163 = .ok (.dup, 1) := by decide +kernel
theorem dX14_text_164 : decode cX14_text 164 = .ok (.invokespecial 42, 3) := by decide +kernel
theorem dX14_text_167 : decode cX14_text 167 = .ok (.ldc 62, 2) := by decide +kernel
theorem dX14_text_169 : decode cX14_text 169 = .ok (.invokevirtual 45, 3) := by decide +kernel
theorem dX14_text_172 : decode cX14_text 172 = .ok (.aload_n 0, 1) := by decide +kernel
theorem dX14_text_173 : decode cX14_text 173 = .ok (.getfield 13, 3) := by decide +kernel
theorem dX14_text_176 : decode cX14_text 176 = .ok (.invokevirtual 49, 3) := by decide +kernel
theorem dX14_text_179 : decode cX14_text 179 = .ok (.invokevirtual 52, 3) := by decide +kernel
theorem dX14_text_182 : decode cX14_text 182 = .ok (.areturn, 1) := by decide +kernel
theorem dX14_text_183 : decode cX14_text 183 = .ok (.new 40, 3) := by decide +kernel
theorem dX14_text_186 : decode cX14_text 186 = .ok (.dup, 1) := by decide +kernel
theorem dX14_text_187 : decode cX14_text 187 = .ok (.invokespecial 42, 3) := by decide +kernel
theorem dX14_text_190 : decode cX14_text 190 = .ok (.ldc 64, 2) := by decide +kernel
theorem dX14_text_192 : decode cX14_text 192 = .ok (.invokevirtual 45, 3) := by decide +kernel
theorem dX14_text_195 : decode cX14_text 195 = .ok (.aload_n 0, 1) := by decide +kernel
theorem dX14_text_196 : decode cX14_text 196 = .ok (.getfield 16, 3) := by decide +kernel
theorem dX14_text_199 : decode cX14_text 199 = .ok (.invokevirtual 66, 3) := by decide +kernel
theorem dX14_text_202 : decode cX14_text 202 = .ok (.invokevirtual 45, 3) := by decide +kernel
theorem dX14_text_205 : decode cX14_text 205 = .ok (.invokevirtual 52, 3) := by decide +kernel
theorem dX14_text_208 : decode cX14_text 208 = .ok (.areturn, 1) := by decide +kernel
theorem dX14_text_209 : decode cX14_text 209 = .ok (.new 40, 3) := by decide +kernel
theorem dX14_text_212 : decode cX14_text 212 = .ok (.dup, 1) := by decide +kernel
theorem dX14_text_213 : decode cX14_text 213 = .ok (.invokespecial 42, 3) := by decide +kernel
theorem dX14_text_216 : decode cX14_text 216 = .ok (.ldc 69, 2) := by decide +kernel
theorem dX14_text_218 : decode cX14_text 218 = .ok (.invokevirtual 45, 3) := by decide +kernel
theorem dX14_text_221 : decode cX14_text 221 = .ok (.aload_n 0, 1) := by decide +kernel
theorem dX14_text_222 : decode cX14_text 222 = .ok (.getfield 16, 3) := by decide +kernel
theorem dX14_text_225 : decode cX14_text 225 = .ok (.invokevirtual 66, 3) := by decide +kernel
theorem dX14_text_228 : decode cX14_text 228 = .ok (.invokevirtual 45, 3) := by decide +kernel
theorem dX14_text_231 : decode cX14_text 231 = .ok (.ldc 71, 2) := by decide +kernel
theorem dX14_text_233 : decode cX14_text 233 = .ok (.invokevirtual 45, 3) := by decide +kernel
theorem dX14_text_236 : decode cX14_text 236 = .ok (.aload_n 0, 1) := by decide +kernel
theorem dX14_text_237 : decode cX14_text 237 = .ok (.getfield 20, 3) := by decide +kernel
theorem dX14_text_240 : decode cX14_text 240 = .ok (.invokevirtual 66, 3) := by decide +kernel
theorem dX14_text_243 : decode cX14_text 243 = .ok (.invokevirtual 45, 3) := by decide +kernel
theorem dX14_text_246 : decode cX14_text 246 = .ok (.ldc 73, 2) := by decide +kernel
theorem dX14_text_248 : decode cX14_text 248 = .ok (.invokevirtual 45, 3) := by decide +kernel
theorem dX14_text_251 : decode cX14_text 251 = .ok (.invokevirtual 52, 3) := by decide +kernel
theorem dX14_text_254 : decode cX14_text 254 = .ok (.areturn, 1) := by decide +kernel
theorem dX14_text_255 : decode cX14_text 255 = .ok (.new 40, 3) := by decide +kernel
theorem dX14_text_258 : decode cX14_text 258 = .ok (.dup, 1) := by decide +kernel
theorem dX14_text_259 : decode cX14_text 259 = .ok (.invokespecial 42, 3) := by decide +kernel
theorem dX14_text_262 : decode cX14_text 262 = .ok (.ldc 75, 2) := by decide +kernel
theorem dX14_text_264 : decode cX14_text 264 = .ok (.invokevirtual 45, 3) := by decide +kernel
theorem dX14_text_267 : decode cX14_text 267 = .ok (.aload_n 0, 1) := by decide +kernel
theorem dX14_text_268 : decode cX14_text 268 = .ok (.getfield 16, 3) := by decide +kernel
theorem dX14_text_271 : decode cX14_text 271 = .ok (.invokevirtual 66, 3) := by decide +kernel
theorem dX14_text_274 : decode cX14_text 274 = .ok (.invokevirtual 45, 3) := by decide +kernel
theorem dX14_text_277 : decode cX14_text 277 = .ok (.ldc 77, 2) := by decide +kernel
theorem dX14_text_279 : decode cX14_text 279 = .ok (.invokevirtual 45, 3) := by decide +kernel
theorem dX14_text_282 : decode cX14_text 282 = .ok (.aload_n 0, 1) := by decide +kernel
theorem dX14_text_283 : decode cX14_text 283 = .ok (.getfield 20, 3) := by decide +kernel
theorem dX14_text_286 : decode cX14_text 286 = .ok (.invokevirtual 66, 3) := by decide +kernel
theorem dX14_text_289 : decode cX14_text 289 = .ok (.invokevirtual 45, 3) := by decide +kernel
theorem dX14_text_292 : decode cX14_text 292 = .ok (.ldc 73, 2) := by decide +kernel
theorem dX14_text_294 : decode cX14_text 294 = .ok (.invokevirtual 45, 3) := by decide +kernel
theorem dX14_text_297 : decode cX14_text 297 = .ok (.invokevirtual 52, 3) := by decide +kernel
theorem dX14_text_300 : decode cX14_text 300 = .ok (.areturn, 1) := by decide +kernel
theorem dX14_text_301 : decode cX14_text 301 = .ok (.new 40, 3) := by decide +kernel
theorem dX14_text_304 : decode cX14_text 304 = .ok (.dup, 1) := by decide +kernel
theorem dX14_text_305 : decode cX14_text 305 = .ok (.invokespecial 42, 3) := by decide +kernel
theorem dX14_text_308 : decode cX14_text 308 = .ok (.ldc 79, 2) := by decide +kernel
theorem dX14_text_310 : decode cX14_text 310 = .ok (.invokevirtual 45, 3) := by decide +kernel
theorem dX14_text_313 : decode cX14_text 313 = .ok (.aload_n 0, 1) := by decide +kernel
theorem dX14_text_314 : decode cX14_text 314 = .ok (.getfield 13, 3) := by decide +kernel
theorem dX14_text_317 : decode cX14_text 317 = .ok (.invokevirtual 49, 3) := by decide +kernel
theorem dX14_text_320 : decode cX14_text 320 = .ok (.invokevirtual 52, 3) := by decide +kernel
theorem dX14_text_323 : decode cX14_text 323 = .ok (.areturn, 1) := by decide +kernel
theorem dX14_text_324 : decode cX14_text 324 = .ok (.new 40, 3) := by decide +kernel
theorem dX14_text_327 : decode cX14_text 327 = .ok (.dup, 1) := by decide +kernel
theorem dX14_text_328 : decode cX14_text 328 = .ok (.invokespecial 42, 3) := by decide +kernel
theorem dX14_text_331 : decode cX14_text 331 = .ok (.ldc 81, 2) := by decide +kernel
theorem dX14_text_333 : decode cX14_text 333 = .ok (.invokevirtual 45, 3) := by decide +kernel
theorem dX14_text_336 : decode cX14_text 336 = .ok (.aload_n 0, 1) := by decide +kernel
theorem dX14_text_337 : decode cX14_text 337 = .ok (.getfield 13, 3) := by decide +kernel
theorem dX14_text_340 : decode cX14_text 340 = .ok (.invokevirtual 49, 3) := by decide +kernel
theorem dX14_text_343 : decode cX14_text 343 = .ok (.invokevirtual 52, 3) := by decide +kernel
theorem dX14_text_346 : decode cX14_text 346 = .ok (.areturn, 1) := by decide +kernel
theorem dX14_text_347 : decode cX14_text 347 = .ok (.new 40, 3) := by decide +kernel
theorem dX14_text_350 : decode cX14_text 350 = .ok (.dup, 1) := by decide +kernel
theorem dX14_text_351 : decode cX14_text 351 = .ok (.invokespecial 42, 3) := by decide +kernel
theorem dX14_text_354 : decode cX14_text 354 = .ok (.ldc 83, 2) := by decide +kernel
theorem dX14_text_356 : decode cX14_text 356 = .ok (.invokevirtual 45, 3) := by decide +kernel
theorem dX14_text_359 : decode cX14_text 359 = .ok (.aload_n 0, 1) := by decide +kernel
theorem dX14_text_360 : decode cX14_text 360 = .ok (.getfield 16, 3) := by decide +kernel
theorem dX14_text_363 : decode cX14_text 363 = .ok (.invokevirtual 66, 3) := by decide +kernel
theorem dX14_text_366 : decode cX14_text 366 = .ok (.invokevirtual 45, 3) := by decide +kernel
theorem dX14_text_369 : decode cX14_text 369 = .ok (.invokevirtual 52, 3) := by decide +kernel
theorem dX14_text_372 : decode cX14_text 372 = .ok (.areturn, 1) := by decide +kernel
theorem dX14_text_373 : decode cX14_text 373 = .ok (.new 40, 3) := by decide +kernel
theorem dX14_text_376 : decode cX14_text 376 = .ok (.dup, 1) := by decide +kernel
theorem dX14_text_377 : decode cX14_text 377 = .ok (.invokespecial 42, 3) := by decide +kernel
theorem dX14_text_380 : decode cX14_text 380 = .ok (.ldc 85, 2) := by decide +kernel
theorem dX14_text_382 : decode cX14_text 382 = .ok (.invokevirtual 45, 3) := by decide +kernel
theorem dX14_text_385 : decode cX14_text 385 = .ok (.aload_n 0, 1) := by decide +kernel
theorem dX14_text_386 : decode cX14_text 386 = .ok (.getfield 16, 3) := by decide +kernel
theorem dX14_text_389 : decode cX14_text 389 = .ok (.invokevirtual 66, 3) := by decide +kernel
theorem dX14_text_392 : decode cX14_text 392 = .ok (.invokevirtual 45, 3) := by decide +kernel
theorem dX14_text_395 : decode cX14_text 395 = .ok (.ldc 87, 2) := by decide +kernel
theorem dX14_text_397 : decode cX14_text 397 = .ok (.invokevirtual 45, 3) := by decide +kernel
theorem dX14_text_400 : decode cX14_text 400 = .ok (.aload_n 0, 1) := by decide +kernel
theorem dX14_text_401 : decode cX14_text 401 = .ok (.getfield 20, 3) := by decide +kernel
theorem dX14_text_404 : decode cX14_text 404 = .ok (.invokevirtual 66, 3) := by decide +kernel
theorem dX14_text_407 : decode cX14_text 407 = .ok (.invokevirtual 45, 3) := by decide +kernel
theorem dX14_text_410 : decode cX14_text 410 = .ok (.ldc 89, 2) := by decide +kernel
theorem dX14_text_412 : decode cX14_text 412 = .ok (.invokevirtual 45, 3) := by decide +kernel
theorem dX14_text_415 : decode cX14_text 415 = .ok (.invokevirtual 52, 3) := by decide +kernel
theorem dX14_text_418 : decode cX14_text 418 = .ok (.areturn, 1) := by decide +kernel
theorem dX14_text_419 : decode cX14_text 419 = .ok (.new 40, 3) := by decide +kernel
theorem dX14_text_422 : decode cX14_text 422 = .ok (.dup, 1) := by decide +kernel
theorem dX14_text_423 : decode cX14_text 423 = .ok (.invokespecial 42, 3) := by decide +kernel
theorem dX14_text_426 : decode cX14_text 426 = .ok (.ldc 85, 2) := by decide +kernel
theorem dX14_text_428 : decode cX14_text 428 = .ok (.invokevirtual 45, 3) := by decide +kernel
theorem dX14_text_431 : decode cX14_text 431 = .ok (.aload_n 0, 1) := by decide +kernel
theorem dX14_text_432 : decode cX14_text 432 = .ok (.getfield 16, 3) := by decide +kernel
theorem dX14_text_435 : decode cX14_text 435 = .ok (.invokevirtual 66, 3) := by decide +kernel
theorem dX14_text_438 : decode cX14_text 438 = .ok (.invokevirtual 45, 3) := by decide +kernel
theorem dX14_text_441 : decode cX14_text 441 = .ok (.ldc 91, 2) := by decide +kernel
theorem dX14_text_443 : decode cX14_text 443 = .ok (.invokevirtual 45, 3) := by decide +kernel
theorem dX14_text_446 : decode cX14_text 446 = .ok (.aload_n 0, 1) := by decide +kernel
theorem dX14_text_447 : decode cX14_text 447 = .ok (.getfield 20, 3) := by decide +kernel
theorem dX14_text_450 : decode cX14_text 450 = .ok (.invokevirtual 66, 3) := by decide +kernel
theorem dX14_text_453 : decode cX14_text 453 = .ok (.invokevirtual 45, 3) := by decide +kernel
theorem dX14_text_456 : decode cX14_text 456 = .ok (.ldc 89, 2) := by decide +kernel
theorem dX14_text_458 : decode cX14_text 458 = .ok (.invokevirtual 45, 3) := by decide +kernel
theorem dX14_text_461 : decode cX14_text 461 = .ok (.invokevirtual 52, 3) := by decide +kernel
theorem dX14_text_464 : decode cX14_text 464 = .ok (.areturn, 1) := by decide +kernel
theorem dX14_text_465 : decode cX14_text 465 = .ok (.aload_n 0, 1) := by decide +kernel
theorem dX14_text_466 : decode cX14_text 466 = .ok (.getfield 7, 3) := by decide +kernel
theorem dX14_text_469 : decode cX14_text 469 = .ok (.bipush 12, 2) := by decide +kernel
theorem dX14_text_471 : decode cX14_text 471 = .ok (.if_icmp .ge 60, 3) := by decide +kernel
theorem dX14_text_474 : decode cX14_text 474 = .ok (.new 40, 3) := by decide +kernel
theorem dX14_text_477 : decode cX14_text 477 = .ok (.dup, 1) := by decide +kernel
theorem dX14_text_478 : decode cX14_text 478 = .ok (.invokespecial 42, 3) := by decide +kernel
theorem dX14_text_481 : decode cX14_text 481 = .ok (.ldc 93, 2) := by decide +kernel
theorem dX14_text_483 : decode cX14_text 483 = .ok (.invokevirtual 45, 3) := by decide +kernel
theorem dX14_text_486 : decode cX14_text 486 = .ok (.aload_n 0, 1) := by decide +kernel
theorem dX14_text_487 : decode cX14_text 487 = .ok (.getfield 16, 3) := by decide +kernel
theorem dX14_text_490 : decode cX14_text 490 = .ok (.invokevirtual 66, 3) := by decide +kernel
theorem dX14_text_493 : decode cX14_text 493 = .ok (.invokevirtual 45, 3) := by decide +kernel
theorem dX14_text_496 : decode cX14_text 496 = .ok (.getstatic 95, 3) := by decide +kernel
theorem dX14_text_499 : decode cX14_text 499 = .ok (.aload_n 0, 1) := by decide +kernel
theorem dX14_text_500 : decode cX14_text 500 = .ok (.getfield 7, 3) := by decide +kernel
theorem dX14_text_503 : decode cX14_text 503 = .ok (.bipush 8, 2) := by decide +kernel
theorem dX14_text_505 : decode cX14_text 505 = .ok (.isub, 1) := by decide +kernel
theorem dX14_text_506 : decode cX14_text 506 = .ok (.aaload, 1) := by decide +kernel
theorem dX14_text_507 : decode cX14_text 507 = .ok (.invokevirtual 45, 3) := by decide +kernel
theorem dX14_text_510 : decode cX14_text 510 = .ok (.aload_n 0, 1) := by decide +kernel
theorem dX14_text_511 : decode cX14_text 511 = .ok (.getfield 20, 3) := by decide +kernel
theorem dX14_text_514 : decode cX14_text 514 = .ok (.invokevirtual 66, 3) := by decide +kernel
theorem dX14_text_517 : decode cX14_text 517 = .ok (.invokevirtual 45, 3) := by decide +kernel
theorem dX14_text_520 : decode cX14_text 520 = .ok (.ldc 73, 2) := by decide +kernel
theorem dX14_text_522 : decode cX14_text 522 = .ok (.invokevirtual 45, 3) := by decide +kernel
theorem dX14_text_525 : decode cX14_text 525 = .ok (.invokevirtual 52, 3) := by decide +kernel
theorem dX14_text_528 : decode cX14_text 528 = .ok (.goto 47, 3) := by decide +kernel
theorem dX14_text_531 : decode cX14_text 531 = .ok (.new 40, 3) := by decide +kernel
theorem dX14_text_534 : decode cX14_text 534 = .ok (.dup, 1) := by decide +kernel
theorem dX14_text_535 : decode cX14_text 535 = .ok (.invokespecial 42, 3) := by decide +kernel
theorem dX14_text_538 : decode cX14_text 538 = .ok (.aload_n 0, 1) := by decide +kernel
theorem dX14_text_539 : decode cX14_text 539 = .ok (.getfield 16, 3) := by decide +kernel
theorem dX14_text_542 : decode cX14_text 542 = .ok (.invokevirtual 66, 3) := by decide +kernel
theorem dX14_text_545 : decode cX14_text 545 = .ok (.invokevirtual 45, 3) := by decide +kernel
theorem dX14_text_548 : decode cX14_text 548 = .ok (.getstatic 95, 3) := by decide +kernel
theorem dX14_text_551 : decode cX14_text 551 = .ok (.aload_n 0, 1) := by decide +kernel
theorem dX14_text_552 : decode cX14_text 552 = .ok (.getfield 7, 3) := by decide +kernel
theorem dX14_text_555 : decode cX14_text 555 = .ok (.bipush 8, 2) := by decide +kernel
theorem dX14_text_557 : decode cX14_text 557 = .ok (.isub, 1) := by decide +kernel
theorem dX14_text_558 : decode cX14_text 558 = .ok (.aaload, 1) := by decide +kernel
theorem dX14_text_559 : decode cX14_text 559 = .ok (.invokevirtual 45, 3) := by decide +kernel
theorem dX14_text_562 : decode cX14_text 562 = .ok (.aload_n 0, 1) := by decide +kernel
theorem dX14_text_563 : decode cX14_text 563 = .ok (.getfield 20, 3) := by decide +kernel
theorem dX14_text_566 : decode cX14_text 566 = .ok (.invokevirtual 66, 3) := by decide +kernel
theorem dX14_text_569 : decode cX14_text 569 = .ok (.invokevirtual 45, 3) := by decide +kernel
theorem dX14_text_572 : decode cX14_text 572 = .ok (.invokevirtual 52, 3) := by decide +kernel
theorem dX14_text_575 : decode cX14_text 575 = .ok (.areturn, 1) := by decide +kernel
theorem dX14_value_0 : decode cX14_value 0 = .ok (.aload_n 0, 1) := by decide +kernel
theorem dX14_value_1 : decode cX14_value 1 = .ok (.getfield 7, 3) := by decide +kernel
theorem dX14_value_4 : decode cX14_value 4 = .ok (.tableswitch 212 0 19 #[96, 101, 106, 111, 143, 154, 212, 212, 212, 212, 212, 212, 212, 212, 212, 212, 212, 165, 183, 201], 96) := by decide +kernel
theorem dX14_value_100 : decode cX14_value 100 = .ok (.aload_n 0, 1) := by decide +kernel
theorem dX14_value_101 : decode cX14_value 101 = .ok (.getfield 13, 3) := by decide +kernel
theorem dX14_value_104 : decode cX14_value 104 = .ok (.ireturn, 1) := by decide +kernel
theorem dX14_value_105 : decode cX14_value 105 = .ok (.aload_n 1, 1) := by decide +kernel
theorem dX14_value_106 : decode cX14_value 106 = .ok (.getfield 101, 3) := by decide +kernel
theorem dX14_value_109 : decode cX14_value 109 = .ok (.ireturn, 1) := by decide +kernel
theorem dX14_value_110 : decode cX14_value 110 = .ok (.aload_n 1, 1) := by decide +kernel
theorem dX14_value_111 : decode cX14_value 111 = .ok (.invokevirtual 106, 3) := by decide +kernel
theorem dX14_value_114 : decode cX14_value 114 = .ok (.ireturn, 1) := by decide +kernel
theorem dX14_value_115 : decode cX14_value 115 = .ok (.aload_n 1, 1) := by decide +kernel
theorem dX14_value_116 : decode cX14_value 116 = .ok (.getfield 109, 3) := by decide +kernel
theorem dX14_value_119 : decode cX14_value 119 = .ok (.arraylength, 1) := by decide +kernel
theorem dX14_value_120 : decode cX14_value 120 = .ok (.ifCond .ne 9, 3) := by decide +kernel
theorem dX14_value_123 : decode cX14_value 123 = .ok (.sipush 999, 3) := by decide +kernel
theorem dX14_value_126 : decode cX14_value 126 = .ok (.goto 20, 3) := by decide +kernel
theorem dX14_value_129 : decode cX14_value 129 = .ok (.aload_n 1, 1) := by decide +kernel
theorem dX14_value_130 : decode cX14_value 130 = .ok (.aload_n 1, 1) := by decide +kernel
theorem dX14_value_131 : decode cX14_value 131 = .ok (.getfield 113, 3) := by decide +kernel
theorem dX14_value_134 : decode cX14_value 134 = .ok (.aload_n 0, 1) := by decide +kernel
theorem dX14_value_135 : decode cX14_value 135 = .ok (.getfield 13, 3) := by decide +kernel
theorem dX14_value_138 : decode cX14_value 138 = .ok (.aaload, 1) := by decide +kernel
theorem dX14_value_139 : decode cX14_value 139 = .ok (.aload_n 1, 1) := by decide +kernel
theorem dX14_value_140 : decode cX14_value 140 = .ok (.getfield 109, 3) := by decide +kernel
theorem dX14_value_143 : decode cX14_value 143 = .ok (.invokevirtual 117, 3) := by decide +kernel
theorem dX14_value_146 : decode cX14_value 146 = .ok (.ireturn, 1) := by decide +kernel
theorem dX14_value_147 : decode cX14_value 147 = .ok (.aload_n 1, 1) := by decide +kernel
theorem dX14_value_148 : decode cX14_value 148 = .ok (.getfield 113, 3) := by decide +kernel
theorem dX14_value_151 : decode cX14_value 151 = .ok (.aload_n 0, 1) := by decide +kernel
theorem dX14_value_152 : decode cX14_value 152 = .ok (.getfield 13, 3) := by decide +kernel
theorem dX14_value_155 : decode cX14_value 155 = .ok (.aaload, 1) := by decide +kernel
theorem dX14_value_156 : decode cX14_value 156 = .ok (.arraylength, 1) := by decide +kernel
theorem dX14_value_157 : decode cX14_value 157 = .ok (.ireturn, 1) := by decide +kernel
theorem dX14_value_158 : decode cX14_value 158 = .ok (.iconst 0, 1) := by decide +kernel
theorem dX14_value_159 : decode cX14_value 159 = .ok (.aload_n 0, 1) := by decide +kernel
theorem dX14_value_160 : decode cX14_value 160 = .ok (.getfield 16, 3) := by decide +kernel
theorem dX14_value_163 : decode cX14_value 163 = .ok (.aload_n 1, 1) := by decide +kernel
theorem dX14_value_164 : decode cX14_value 164 = .ok (.invokevirtual 121, 3) := by decide +kernel
theorem dX14_value_167 : decode cX14_value 167 = .ok (.isub, 1) := by decide +kernel
theorem dX14_value_168 : decode cX14_value 168 = .ok (.ireturn, 1) := by decide +kernel
theorem dX14_value_169 : decode cX14_value 169 = .ok (.aload_n 1, 1) := by decide +kernel
theorem dX14_value_170 : decode cX14_value 170 = .ok (.iconst (-1), 1) := by decide +kernel
theorem dX14_value_171 : decode cX14_value 171 = .ok (.invokevirtual 125, 3) := by decide +kernel
theorem dX14_value_174 : decode cX14_value 174 = .ok (.aload_n 0, 1) := by decide +kernel
theorem dX14_value_175 : decode cX14_value 175 = .ok (.getfield 13, 3) := by decide +kernel
theorem dX14_value_178 : decode cX14_value 178 = .ok (.if_icmp .ne 7, 3) := by decide +kernel
theorem dX14_value_181 : decode cX14_value 181 = .ok (.iconst 1, 1) := by decide +kernel
theorem dX14_value_182 : decode cX14_value 182 = .ok (.goto 4, 3) := by decide +kernel
theorem dX14_value_185 : decode cX14_value 185 = .ok (.iconst 0, 1) := by decide +kernel
theorem dX14_value_186 : decode cX14_value 186 = .ok (.ireturn, 1) := by decide +kernel
theorem dX14_value_187 : decode cX14_value 187 = .ok (.aload_n 1, 1) := by decide +kernel
theorem dX14_value_188 : decode cX14_value 188 = .ok (.getfield 128, 3) := by decide +kernel
theorem dX14_value_191 : decode cX14_value 191 = .ok (.aload_n 0, 1) := by decide +kernel
theorem dX14_value_192 : decode cX14_value 192 = .ok (.getfield 13, 3) := by decide +kernel
theorem dX14_value_195 : decode cX14_value 195 = .ok (.baload, 1) := by decide +kernel
theorem dX14_value_196 : decode cX14_value 196 = .ok (.ifCond .eq 7, 3) := by decide +kernel
theorem dX14_value_199 : decode cX14_value 199 = .ok (.iconst 1, 1) := by decide +kernel
theorem dX14_value_200 : decode cX14_value 200 = .ok (.goto 4, 3) := by decide +kernel
theorem dX14_value_203 : decode cX14_value 203 = .ok (.iconst 0, 1) := by decide +kernel
theorem dX14_value_204 : decode cX14_value 204 = .ok (.ireturn, 1) := by decide +kernel
theorem dX14_value_205 : decode cX14_value 205 = .ok (.iconst 1, 1) := by decide +kernel
theorem dX14_value_206 : decode cX14_value 206 = .ok (.aload_n 0, 1) := by decide +kernel
theorem dX14_value_207 : decode cX14_value 207 = .ok (.getfield 16, 3) := by decide +kernel
theorem dX14_value_210 : decode cX14_value 210 = .ok (.aload_n 1, 1) := by decide +kernel
theorem dX14_value_211 : decode cX14_value 211 = .ok (.invokevirtual 121, 3) := by decide +kernel
theorem dX14_value_214 : decode cX14_value 214 = .ok (.isub, 1) := by decide +kernel
theorem dX14_value_215 : decode cX14_value 215 = .ok (.ireturn, 1) := by decide +kernel
theorem dX14_value_216 : decode cX14_value 216 = .ok (.aload_n 0, 1) := by decide +kernel
theorem dX14_value_217 : decode cX14_value 217 = .ok (.getfield 7, 3) := by decide +kernel
theorem dX14_value_220 : decode cX14_value 220 = .ok (.aload_n 0, 1) := by decide +kernel
theorem dX14_value_221 : decode cX14_value 221 = .ok (.getfield 16, 3) := by decide +kernel
theorem dX14_value_224 : decode cX14_value 224 = .ok (.aload_n 1, 1) := by decide +kernel
theorem dX14_value_225 : decode cX14_value 225 = .ok (.invokevirtual 121, 3) := by decide +kernel
theorem dX14_value_228 : decode cX14_value 228 = .ok (.aload_n 0, 1) := by decide +kernel
theorem dX14_value_229 : decode cX14_value 229 = .ok (.getfield 20, 3) := by decide +kernel
theorem dX14_value_232 : decode cX14_value 232 = .ok (.aload_n 1, 1) := by decide +kernel
theorem dX14_value_233 : decode cX14_value 233 = .ok (.invokevirtual 121, 3) := by decide +kernel
theorem dX14_value_236 : decode cX14_value 236 = .ok (.invokestatic 132, 3) := by decide +kernel
theorem dX14_value_239 : decode cX14_value 239 = .ok (.ireturn, 1) := by decide +kernel
theorem dX14_both_0 : decode cX14_both 0 = .ok (.iload_n 0, 1) := by decide +kernel
theorem dX14_both_1 : decode cX14_both 1 = .ok (.tableswitch 141 6 21 #[79, 90, 101, 105, 109, 113, 141, 141, 141, 141, 141, 141, 141, 141, 125, 129], 79) := by decide +kernel
theorem dX14_both_80 : decode cX14_both 80 = .ok (.iload_n 1, 1) := by decide +kernel
theorem dX14_both_81 : decode cX14_both 81 = .ok (.iload_n 2, 1) := by decide +kernel
theorem dX14_both_82 : decode cX14_both 82 = .ok (.if_icmp .ge 7, 3) := by decide +kernel
theorem dX14_both_85 : decode cX14_both 85 = .ok (.iload_n 1, 1) := by decide +kernel
theorem dX14_both_86 : decode cX14_both 86 = .ok (.goto 4, 3) := by decide +kernel
theorem dX14_both_89 : decode cX14_both 89 = .ok (.iload_n 2, 1) := by decide +kernel
theorem dX14_both_90 : decode cX14_both 90 = .ok (.ireturn, 1) := by decide +kernel
theorem dX14_both_91 : decode cX14_both 91 = .ok (.iload_n 1, 1) := by decide +kernel
theorem dX14_both_92 : decode cX14_both 92 = .ok (.iload_n 2, 1) := by decide +kernel
theorem dX14_both_93 : decode cX14_both 93 = .ok (.if_icmp .ge 7, 3) := by decide +kernel
theorem dX14_both_96 : decode cX14_both 96 = .ok (.iload_n 2, 1) := by decide +kernel
theorem dX14_both_97 : decode cX14_both 97 = .ok (.goto 4, 3) := by decide +kernel
theorem dX14_both_100 : decode cX14_both 100 = .ok (.iload_n 1, 1) := by decide +kernel
theorem dX14_both_101 : decode cX14_both 101 = .ok (.ireturn, 1) := by decide +kernel
theorem dX14_both_102 : decode cX14_both 102 = .ok (.iload_n 1, 1) := by decide +kernel
theorem dX14_both_103 : decode cX14_both 103 = .ok (.iload_n 2, 1) := by decide +kernel
theorem dX14_both_104 : decode cX14_both 104 = .ok (.iadd, 1) := by decide +kernel
theorem dX14_both_105 : decode cX14_both 105 = .ok (.ireturn, 1) := by decide +kernel
theorem dX14_both_106 : decode cX14_both 106 = .ok (.iload_n 1, 1) := by decide +kernel
theorem dX14_both_107 : decode cX14_both 107 = .ok (.iload_n 2, 1) := by decide +kernel
theorem dX14_both_108 : decode cX14_both 108 = .ok (.isub, 1) := by decide +kernel
theorem dX14_both_109 : decode cX14_both 109 = .ok (.ireturn, 1) := by decide +kernel
theorem dX14_both_110 : decode cX14_both 110 = .ok (.iload_n 1, 1) := by decide +kernel
theorem dX14_both_111 : decode cX14_both 111 = .ok (.iload_n 2, 1) := by decide +kernel
theorem dX14_both_112 : decode cX14_both 112 = .ok (.imul, 1) := by decide +kernel
theorem dX14_both_113 : decode cX14_both 113 = .ok (.ireturn, 1) := by decide +kernel
theorem dX14_both_114 : decode cX14_both 114 = .ok (.iload_n 2, 1) := by decide +kernel
theorem dX14_both_115 : decode cX14_both 115 = .ok (.ifCond .ne 7, 3) := by decide +kernel
theorem dX14_both_118 : decode cX14_both 118 = .ok (.iconst 0, 1) := by decide +kernel
theorem dX14_both_119 : decode cX14_both 119 = .ok (.goto 6, 3) := by decide +kernel
theorem dX14_both_122 : decode cX14_both 122 = .ok (.iload_n 1, 1) := by decide +kernel
theorem dX14_both_123 : decode cX14_both 123 = .ok (.iload_n 2, 1) := by decide +kernel
theorem dX14_both_124 : decode cX14_both 124 = .ok (.idiv, 1) := by decide +kernel
theorem dX14_both_125 : decode cX14_both 125 = .ok (.ireturn, 1) := by decide +kernel
theorem dX14_both_126 : decode cX14_both 126 = .ok (.iload_n 1, 1) := by decide +kernel
theorem dX14_both_127 : decode cX14_both 127 = .ok (.iload_n 2, 1) := by decide +kernel
theorem dX14_both_128 : decode cX14_both 128 = .ok (.imul, 1) := by decide +kernel
theorem dX14_both_129 : decode cX14_both 129 = .ok (.ireturn, 1) := by decide +kernel
theorem dX14_both_130 : decode cX14_both 130 = .ok (.iload_n 1, 1) := by decide +kernel
theorem dX14_both_131 : decode cX14_both 131 = .ok (.iload_n 2, 1) := by decide +kernel
theorem dX14_both_132 : decode cX14_both 132 = .ok (.iadd, 1) := by decide +kernel
theorem dX14_both_133 : decode cX14_both 133 = .ok (.ifCond .le 7, 3) := by decide +kernel
theorem dX14_both_136 : decode cX14_both 136 = .ok (.iconst 1, 1) := by decide +kernel
theorem dX14_both_137 : decode cX14_both 137 = .ok (.goto 4, 3) := by decide +kernel
theorem dX14_both_140 : decode cX14_both 140 = .ok (.iconst 0, 1) := by decide +kernel
theorem dX14_both_141 : decode cX14_both 141 = .ok (.ireturn, 1) := by decide +kernel
theorem dX14_both_142 : decode cX14_both 142 = .ok (.iload_n 0, 1) := by decide +kernel
theorem dX14_both_143 : decode cX14_both 143 = .ok (.bipush 12, 2) := by decide +kernel
theorem dX14_both_145 : decode cX14_both 145 = .ok (.if_icmp .ne 11, 3) := by decide +kernel
theorem dX14_both_148 : decode cX14_both 148 = .ok (.iload_n 1, 1) := by decide +kernel
theorem dX14_both_149 : decode cX14_both 149 = .ok (.iload_n 2, 1) := by decide +kernel
theorem dX14_both_150 : decode cX14_both 150 = .ok (.if_icmp .ge 57, 3) := by decide +kernel
theorem dX14_both_153 : decode cX14_both 153 = .ok (.goto 50, 3) := by decide +kernel
theorem dX14_both_156 : decode cX14_both 156 = .ok (.iload_n 0, 1) := by decide +kernel
theorem dX14_both_157 : decode cX14_both 157 = .ok (.bipush 13, 2) := by decide +kernel
theorem dX14_both_159 : decode cX14_both 159 = .ok (.if_icmp .ne 11, 3) := by decide +kernel
theorem dX14_both_162 : decode cX14_both 162 = .ok (.iload_n 1, 1) := by decide +kernel
theorem dX14_both_163 : decode cX14_both 163 = .ok (.iload_n 2, 1) := by decide +kernel
theorem dX14_both_164 : decode cX14_both 164 = .ok (.if_icmp .le 43, 3) := by decide +kernel
theorem dX14_both_167 : decode cX14_both 167 = .ok (.goto 36, 3) := by decide +kernel
theorem dX14_both_170 : decode cX14_both 170 = .ok (.iload_n 0, 1) := by decide +kernel
theorem dX14_both_171 : decode cX14_both 171 = .ok (.bipush 14, 2) := by decide +kernel
theorem dX14_both_173 : decode cX14_both 173 = .ok (.if_icmp .ne 11, 3) := by decide +kernel
theorem dX14_both_176 : decode cX14_both 176 = .ok (.iload_n 1, 1) := by decide +kernel
theorem dX14_both_177 : decode cX14_both 177 = .ok (.iload_n 2, 1) := by decide +kernel
theorem dX14_both_178 : decode cX14_both 178 = .ok (.if_icmp .ne 29, 3) := by decide +kernel
theorem dX14_both_181 : decode cX14_both 181 = .ok (.goto 22, 3) := by decide +kernel
theorem dX14_both_184 : decode cX14_both 184 = .ok (.iload_n 0, 1) := by decide +kernel
theorem dX14_both_185 : decode cX14_both 185 = .ok (.bipush 15, 2) := by decide +kernel
theorem dX14_both_187 : decode cX14_both 187 = .ok (.if_icmp .ne 11, 3) := by decide +kernel
theorem dX14_both_190 : decode cX14_both 190 = .ok (.iload_n 1, 1) := by decide +kernel
theorem dX14_both_191 : decode cX14_both 191 = .ok (.iload_n 2, 1) := by decide +kernel
theorem dX14_both_192 : decode cX14_both 192 = .ok (.if_icmp .gt 15, 3) := by decide +kernel
theorem dX14_both_195 : decode cX14_both 195 = .ok (.goto 8, 3) := by decide +kernel
theorem dX14_both_198 : decode cX14_both 198 = .ok (.iload_n 1, 1) := by decide +kernel
theorem dX14_both_199 : decode cX14_both 199 = .ok (.iload_n 2, 1) := by decide +kernel
theorem dX14_both_200 : decode cX14_both 200 = .ok (.if_icmp .lt 7, 3) := by decide +kernel
theorem dX14_both_203 : decode cX14_both 203 = .ok (.iconst 1, 1) := by decide +kernel
theorem dX14_both_204 : decode cX14_both 204 = .ok (.goto 4, 3) := by decide +kernel
theorem dX14_both_207 : decode cX14_both 207 = .ok (.iconst 0, 1) := by decide +kernel
theorem dX14_both_208 : decode cX14_both 208 = .ok (.ireturn, 1) := by decide +kernel
theorem dX15_init_0 : decode cX15_init 0 = .ok (.aload_n 0, 1) := by decide +kernel
theorem dX15_init_1 : decode cX15_init 1 = .ok (.invokespecial 1, 3) := by decide +kernel
theorem dX15_init_4 : decode cX15_init 4 = .ok (.aload_n 1, 1) := by decide +kernel
theorem dX15_init_5 : decode cX15_init 5 = .ok (.iconst 5, 1) := by decide +kernel
theorem dX15_init_6 : decode cX15_init 6 = .ok (.invokevirtual 7, 3) := by decide +kernel
theorem dX15_init_9 : decode cX15_init 9 = .ok (.istore_n 3, 1) := by decide +kernel
theorem dX15_init_10 : decode cX15_init 10 = .ok (.aload_n 0, 1) := by decide +kernel
theorem dX15_init_11 : decode cX15_init 11 = .ok (.iload_n 3, 1) := by decide +kernel
theorem dX15_init_12 : decode cX15_init 12 = .ok (.iconst 3, 1) := by decide +kernel
theorem dX15_init_13 : decode cX15_init 13 = .ok (.if_icmp .ge 7, 3) := by decide +kernel
theorem dX15_init_16 : decode cX15_init 16 = .ok (.iload_n 3, 1) := by decide +kernel
theorem dX15_init_17 : decode cX15_init 17 = .ok (.goto 13, 3) := by decide +kernel
theorem dX15_init_20 : decode cX15_init 20 = .ok (.iload_n 3, 1) := by decide +kernel
theorem dX15_init_21 : decode cX15_init 21 = .ok (.iconst 3, 1) := by decide +kernel
theorem dX15_init_22 : decode cX15_init 22 = .ok (.if_icmp .ne 7, 3) := by decide +kernel
theorem dX15_init_25 : decode cX15_init 25 = .ok (.iconst 2, 1) := by decide +kernel
theorem dX15_init_26 : decode cX15_init 26 = .ok (.goto 4, 3) := by decide +kernel
theorem dX15_init_29 : decode cX15_init 29 = .ok (.iconst 0, 1) := by decide +kernel
theorem dX15_init_30 : decode cX15_init 30 = .ok (.putfield 13, 3) := by decide +kernel
theorem dX15_init_33 : decode cX15_init 33 = .ok (.aload_n 0, 1) := by decide +kernel
theorem dX15_init_34 : decode cX15_init 34 = .ok (.aload_n 1, 1) := by decide +kernel
theorem dX15_init_35 : decode cX15_init 35 = .ok (.iload_n 2, 1) := by decide +kernel
theorem dX15_init_36 : decode cX15_init 36 = .ok (.invokevirtual 7, 3) := by decide +kernel
theorem dX15_init_39 : decode cX15_init 39 = .ok (.putfield 19, 3) := by decide +kernel
theorem dX15_init_42 : decode cX15_init 42 = .ok (.aload_n 0, 1) := by decide +kernel
theorem dX15_init_43 : decode cX15_init 43 = .ok (.aload_n 0, 1) := by decide +kernel
theorem dX15_init_44 : decode cX15_init 44 = .ok (.getfield 13, 3) := by decide +kernel
theorem dX15_init_47 : decode cX15_init 47 = .ok (.iconst 2, 1) := by decide +kernel
theorem dX15_init_48 : decode cX15_init 48 = .ok (.if_icmp .ge 7, 3) := by decide +kernel
theorem dX15_init_51 : decode cX15_init 51 = .ok (.aconst_null, 1) := by decide +kernel
theorem dX15_init_52 : decode cX15_init 52 = .ok (.goto 13, 3) := by decide +kernel
theorem dX15_init_55 : decode cX15_init 55 = .ok (.aload_n 1, 1) := by decide +kernel
theorem dX15_init_56 : decode cX15_init 56 = .ok (.iload_n 2, 1) := by decide +kernel
theorem dX15_init_57 : decode cX15_init 57 = .ok (.aload_n 1, 1) := by decide +kernel
theorem dX15_init_58 : decode cX15_init 58 = .ok (.iconst 2, 1) := by decide +kernel
theorem dX15_init_59 : decode cX15_init 59 = .ok (.invokevirtual 7, 3) := by decide +kernel
theorem dX15_init_62 : decode cX15_init 62 = .ok (.invokestatic 22, 3) := by decide +kernel
theorem dX15_init_65 : decode cX15_init 65 = .ok (.putfield 28, 3) := by decide +kernel
theorem dX15_init_68 : decode cX15_init 68 = .ok (.aload_n 0, 1) := by decide +kernel
theorem dX15_init_69 : decode cX15_init 69 = .ok (.aload_n 1, 1) := by decide +kernel
theorem dX15_init_70 : decode cX15_init 70 = .ok (.iconst 4, 1) := by decide +kernel
theorem dX15_init_71 : decode cX15_init 71 = .ok (.invokevirtual 7, 3) := by decide +kernel
theorem dX15_init_74 : decode cX15_init 74 = .ok (.ifCond .ne 7, 3) := by decide +kernel
theorem dX15_init_77 : decode cX15_init 77 = .ok (.aconst_null, 1) := by decide +kernel
theorem dX15_init_78 : decode cX15_init 78 = .ok (.goto 9, 3) := by decide +kernel
theorem dX15_init_81 : decode cX15_init 81 = .ok (.aload_n 1, 1) := by decide +kernel
theorem dX15_init_82 : decode cX15_init 82 = .ok (.iload_n 2, 1) := by decide +kernel
theorem dX15_init_83 : decode cX15_init 83 = .ok (.iconst 1, 1) := by decide +kernel
theorem dX15_init_84 : decode cX15_init 84 = .ok (.invokestatic 31, 3) := by decide +kernel
theorem dX15_init_87 : decode cX15_init 87 = .ok (.putfield 34, 3) := by decide +kernel
theorem dX15_init_90 : decode cX15_init 90 = .ok (.return_, 1) := by decide +kernel
theorem dX15_text_0 : decode cX15_text 0 = .ok (.new 36, 3) := by decide +kernel
theorem dX15_text_3 : decode cX15_text 3 = .ok (.dup, 1) := by decide +kernel
theorem dX15_text_4 : decode cX15_text 4 = .ok (.invokespecial 38, 3) := by decide +kernel
theorem dX15_text_7 : decode cX15_text 7 = .ok (.aload_n 0, 1) := by decide +kernel
theorem dX15_text_8 : decode cX15_text 8 = .ok (.getfield 13, 3) := by decide +kernel
theorem dX15_text_11 : decode cX15_text 11 = .ok (.ifCond .ne 28, 3) := by decide +kernel
theorem dX15_text_14 : decode cX15_text 14 = .ok (.new 36, 3) := by decide +kernel
theorem dX15_text_17 : decode cX15_text 17 = .ok (.dup, 1) := by decide +kernel
theorem dX15_text_18 : decode cX15_text 18 = .ok (.invokespecial 38, 3) := by decide +kernel
theorem dX15_text_21 : decode cX15_text 21 = .ok (.ldc 39, 2) := by decide +kernel
theorem dX15_text_23 : decode cX15_text 23 = .ok (.invokevirtual 41, 3) := by decide +kernel
theorem dX15_text_26 : decode cX15_text 26 = .ok (.aload_n 0, 1) := by decide +kernel
theorem dX15_text_27 : decode cX15_text 27 = .ok (.getfield 19, 3) := by decide +kernel
theorem dX15_text_30 : decode cX15_text 30 = .ok (.invokevirtual 45, 3) := by decide +kernel
theorem dX15_text_33 : decode cX15_text 33 = .ok (.invokevirtual 48, 3) := by decide +kernel
theorem dX15_text_36 : decode cX15_text 36 = .ok (.goto 73, 3) := by decide +kernel
theorem dX15_text_39 : decode cX15_text 39 = .ok (.aload_n 0, 1) := by decide +kernel
theorem dX15_text_40 : decode cX15_text 40 = .ok (.getfield 13, 3) := by decide +kernel
theorem dX15_text_43 : decode cX15_text 43 = .ok (.iconst 1, 1) := by decide +kernel
theorem dX15_text_44 : decode cX15_text 44 = .ok (.if_icmp .ne 28, 3) := by decide +kernel
theorem dX15_text_47 : decode cX15_text 47 = .ok (.new 36, 3) := by decide +kernel
theorem dX15_text_50 : decode cX15_text 50 = .ok (.dup, 1) := by decide +kernel
theorem dX15_text_51 : decode cX15_text 51 = .ok (.invokespecial 38, 3) := by decide +kernel
theorem dX15_text_54 : decode cX15_text 54 = .ok (.ldc 52, 2) := by decide +kernel
theorem dX15_text_56 : decode cX15_text 56 = .ok (.invokevirtual 41, 3) := by decide +kernel
theorem dX15_text_59 : decode cX15_text 59 = .ok (.aload_n 0, 1) := by decide +kernel
theorem dX15_text_60 : decode cX15_text 60 = .ok (.getfield 19, 3) := by decide +kernel
theorem dX15_text_63 : decode cX15_text 63 = .ok (.invokevirtual 45, 3) := by decide +kernel
theorem dX15_text_66 : decode cX15_text 66 = .ok (.invokevirtual 48, 3) := by decide +kernel
theorem dX15_text_69 : decode cX15_text 69 = .ok (.goto 40, 3) := by decide +kernel
theorem dX15_text_72 : decode cX15_text 72 = .ok (.new 36, 3) := by decide +kernel
theorem dX15_text_75 : decode cX15_text 75 = .ok (.dup, 1) := by decide +kernel
theorem dX15_text_76 : decode cX15_text 76 = .ok (.invokespecial 38, 3) := by decide +kernel
theorem dX15_text_79 : decode cX15_text 79 = .ok (.ldc 54, 2) := by decide +kernel
theorem dX15_text_81 : decode cX15_text 81 = .ok (.invokevirtual 41, 3) := by decide +kernel
theorem dX15_text_84 : decode cX15_text 84 = .ok (.aload_n 0, 1) := by decide +kernel
theorem dX15_text_85 : decode cX15_text 85 = .ok (.getfield 19, 3) := by decide +kernel
theorem dX15_text_88 : decode cX15_text 88 = .ok (.invokevirtual 45, 3) := by decide +kernel
theorem dX15_text_91 : decode cX15_text 91 = .ok (.ldc 56, 2) := by decide +kernel
theorem dX15_text_93 : decode cX15_text 93 = .ok (.invokevirtual 41, 3) := by decide +kernel
theorem dX15_text_96 : decode cX15_text 96 = .ok (.aload_n 0, 1) := by decide +kernel
theorem dX15_text_97 : decode cX15_text 97 = .ok (.getfield 28, 3) := by decide +kernel
theorem dX15_text_100 : decode cX15_text 100 = .ok (.invokevirtual 58, 3) := by decide +kernel
theorem dX15_text_103 : decode cX15_text 103 = .ok (.invokevirtual 41, 3) := by decide +kernel
theorem dX15_text_106 : decode cX15_text 106 = .ok (.invokevirtual 48, 3) := by decide +kernel
theorem dX15_text_109 : decode cX15_text 109 = .ok (.invokevirtual 41, 3) := by decide +kernel
theorem dX15_text_112 : decode cX15_text 112 = .ok (.aload_n 0, 1) := by decide +kernel
theorem dX15_text_113 : decode cX15_text 113 = .ok (.getfield 34, 3) := by decide +kernel
theorem dX15_text_116 : decode cX15_text 116 = .ok (.ifnonnull 8, 3) := by decide +kernel
theorem dX15_text_119 : decode cX15_text 119 = .ok (.ldc 61, 2) := by decide +kernel
theorem dX15_text_121 : decode cX15_text 121 = .ok (.goto 33, 3) := by decide +kernel
theorem dX15_text_124 : decode cX15_text 124 = .ok (.new 36, 3) := by decide +kernel
theorem dX15_text_127 : decode cX15_text 127 = .ok (.dup, 1) := by decide +kernel
theorem dX15_text_128 : decode cX15_text 128 = .ok (.invokespecial 38, 3) := by decide +kernel
theorem dX15_text_131 : decode cX15_text 131 = .ok (.ldc 63, 2) := by decide +kernel
theorem dX15_text_133 : decode cX15_text 133 = .ok (.invokevirtual 41, 3) := by decide +kernel
theorem dX15_text_136 : decode cX15_text 136 = .ok (.aload_n 0, 1) := by decide +kernel
theorem dX15_text_137 : decode cX15_text 137 = .ok (.getfield 34, 3) := by decide +kernel
theorem dX15_text_140 : decode cX15_text 140 = .ok (.invokevirtual 58, 3) := by decide +kernel
theorem dX15_text_143 : decode cX15_text 143 = .ok (.invokevirtual 41, 3) := by decide +kernel
theorem dX15_text_146 : decode cX15_text 146 = .ok (.ldc 61, 2) := by decide +kernel
theorem dX15_text_148 : decode cX15_text 148 = .ok (.invokevirtual 41, 3) := by decide +kernel
theorem dX15_text_151 : decode cX15_text 151 = .ok (.invokevirtual 48, 3) := by decide +kernel
theorem dX15_text_154 : decode cX15_text 154 = .ok (.invokevirtual 41, 3) := by decide +kernel
theorem dX15_text_157 : decode cX15_text 157 = .ok (.invokevirtual 48, 3) := by decide +kernel
theorem dX15_text_160 : decode cX15_text 160 = .ok (.areturn, 1) := by decide +kernel
theorem dX15_isDone_0 : decode cX15_isDone 0 = .ok (.aload_n 0, 1) := by decide +kernel
theorem dX15_isDone_1 : decode cX15_isDone 1 = .ok (.getfield 34, 3) := by decide +kernel
theorem dX15_isDone_4 : decode cX15_isDone 4 = .ok (.ifnull 16, 3) := by decide +kernel
theorem dX15_isDone_7 : decode cX15_isDone 7 = .ok (.aload_n 0, 1) := by decide +kernel
theorem dX15_isDone_8 : decode cX15_isDone 8 = .ok (.getfield 34, 3) := by decide +kernel
theorem dX15_isDone_11 : decode cX15_isDone 11 = .ok (.aload_n 1, 1) := by decide +kernel
theorem dX15_isDone_12 : decode cX15_isDone 12 = .ok (.invokevirtual 65, 3) := by decide +kernel
theorem dX15_isDone_15 : decode cX15_isDone 15 = .ok (.ifCond .ne 5, 3) := by decide +kernel
theorem dX15_isDone_18 : decode cX15_isDone 18 = .ok (.iconst 0, 1) := by decide +kernel
theorem dX15_isDone_19 : decode cX15_isDone 19 = .ok (.ireturn, 1) := by decide +kernel
theorem dX15_isDone_20 : decode cX15_isDone 20 = .ok (.aload_n 0, 1) := by decide +kernel
theorem dX15_isDone_21 : decode cX15_isDone 21 = .ok (.getfield 13, 3) := by decide +kernel
theorem dX15_isDone_24 : decode cX15_isDone 24 = .ok (.iconst 2, 1) := by decide +kernel
theorem dX15_isDone_25 : decode cX15_isDone 25 = .ok (.if_icmp .ne 82, 3) := by decide +kernel
theorem dX15_isDone_28 : decode cX15_isDone 28 = .ok (.aload_n 1, 1) := by decide +kernel
theorem dX15_isDone_29 : decode cX15_isDone 29 = .ok (.getfield 69, 3) := by decide +kernel
theorem dX15_isDone_32 : decode cX15_isDone 32 = .ok (.aload_n 0, 1) := by decide +kernel
theorem dX15_isDone_33 : decode cX15_isDone 33 = .ok (.getfield 19, 3) := by decide +kernel
theorem dX15_isDone_36 : decode cX15_isDone 36 = .ok (.aaload, 1) := by decide +kernel
theorem dX15_isDone_37 : decode cX15_isDone 37 = .ok (.aload_n 0, 1) := by decide +kernel
theorem dX15_isDone_38 : decode cX15_isDone 38 = .ok (.getfield 28, 3) := by decide +kernel
theorem dX15_isDone_41 : decode cX15_isDone 41 = .ok (.aload_n 1, 1) := by decide +kernel
theorem dX15_isDone_42 : decode cX15_isDone 42 = .ok (.invokevirtual 65, 3) := by decide +kernel
theorem dX15_isDone_45 : decode cX15_isDone 45 = .ok (.i2l, 1) := by decide +kernel
theorem dX15_isDone_46 : decode cX15_isDone 46 = .ok (.invokestatic 75, 3) := by decide +kernel
theorem dX15_isDone_49 : decode cX15_isDone 49 = .ok (.astore_n 2, 1) := by decide +kernel
theorem dX15_isDone_50 : decode cX15_isDone 50 = .ok (.iconst 0, 1) := by decide +kernel
theorem dX15_isDone_51 : decode cX15_isDone 51 = .ok (.istore_n 3, 1) := by decide +kernel
theorem dX15_isDone_52 : decode cX15_isDone 52 = .ok (.iconst 0, 1) := by decide +kernel
theorem dX15_isDone_53 : decode cX15_isDone 53 = .ok (.istore 4, 2) := by decide +kernel
theorem dX15_isDone_55 : decode cX15_isDone 55 = .ok (.iload 4, 2) := by decide +kernel
theorem dX15_isDone_57 : decode cX15_isDone 57 = .ok (.aload_n 2, 1) := by decide +kernel
theorem dX15_isDone_58 : decode cX15_isDone 58 = .ok (.arraylength, 1) := by decide +kernel
theorem dX15_isDone_59 : decode cX15_isDone 59 = .ok (.if_icmp .ge 36, 3) := by decide +kernel
theorem dX15_isDone_62 : decode cX15_isDone 62 = .ok (.iload_n 3, 1) := by decide +kernel
theorem dX15_isDone_63 : decode cX15_isDone 63 = .ok (.aload_n 2, 1) := by decide +kernel
theorem dX15_isDone_64 : decode cX15_isDone 64 = .ok (.iload 4, 2) := by decide +kernel
theorem dX15_isDone_66 : decode cX15_isDone 66 = .ok (.iaload, 1) := by decide +kernel
theorem dX15_isDone_67 : decode cX15_isDone 67 = .ok (.aload_n 1, 1) := by decide +kernel
theorem dX15_isDone_68 : decode cX15_isDone 68 = .ok (.getfield 69, 3) := by decide +kernel
theorem dX15_isDone_71 : decode cX15_isDone 71 = .ok (.aload_n 0, 1) := by decide +kernel
theorem dX15_isDone_72 : decode cX15_isDone 72 = .ok (.getfield 19, 3) := by decide +kernel
theorem dX15_isDone_75 : decode cX15_isDone 75 = .ok (.aaload, 1) := by decide +kernel
theorem dX15_isDone_76 : decode cX15_isDone 76 = .ok (.iload 4, 2) := by decide +kernel
theorem dX15_isDone_78 : decode cX15_isDone 78 = .ok (.iaload, 1) := by decide +kernel
theorem dX15_isDone_79 : decode cX15_isDone 79 = .ok (.if_icmp .eq 7, 3) := by decide +kernel
theorem dX15_isDone_82 : decode cX15_isDone 82 = .ok (.iconst 1, 1) := by decide +kernel
theorem dX15_isDone_83 : decode cX15_isDone 83 = .ok (.goto 4, 3) := by decide +kernel
theorem dX15_isDone_86 : decode cX15_isDone 86 = .ok (.iconst 0, 1) := by decide +kernel
theorem dX15_isDone_87 : decode cX15_isDone 87 = .ok (.ior, 1) := by decide +kernel
theorem dX15_isDone_88 : decode cX15_isDone 88 = .ok (.istore_n 3, 1) := by decide +kernel
theorem dX15_isDone_89 : decode cX15_isDone 89 = .ok (.iinc 4 1, 3) := by decide +kernel
theorem dX15_isDone_92 : decode cX15_isDone 92 = .ok (.goto (-37), 3) := by decide +kernel
theorem dX15_isDone_95 : decode cX15_isDone 95 = .ok (.aload_n 1, 1) := by decide +kernel
theorem dX15_isDone_96 : decode cX15_isDone 96 = .ok (.getfield 69, 3) := by decide +kernel
theorem dX15_isDone_99 : decode cX15_isDone 99 = .ok (.aload_n 0, 1) := by decide +kernel
theorem dX15_isDone_100 : decode cX15_isDone 100 = .ok (.getfield 19, 3) := by decide +kernel
theorem dX15_isDone_103 : decode cX15_isDone 103 = .ok (.aload_n 2, 1) := by decide +kernel
theorem dX15_isDone_104 : decode cX15_isDone 104 = .ok (.aastore, 1) := by decide +kernel
theorem dX15_isDone_105 : decode cX15_isDone 105 = .ok (.iload_n 3, 1) := by decide +kernel
theorem dX15_isDone_106 : decode cX15_isDone 106 = .ok (.ireturn, 1) := by decide +kernel
theorem dX15_isDone_107 : decode cX15_isDone 107 = .ok (.aload_n 1, 1) := by decide +kernel
theorem dX15_isDone_108 : decode cX15_isDone 108 = .ok (.getfield 79, 3) := by decide +kernel
theorem dX15_isDone_111 : decode cX15_isDone 111 = .ok (.aload_n 0, 1) := by decide +kernel
theorem dX15_isDone_112 : decode cX15_isDone 112 = .ok (.getfield 19, 3) := by decide +kernel
theorem dX15_isDone_115 : decode cX15_isDone 115 = .ok (.baload, 1) := by decide +kernel
theorem dX15_isDone_116 : decode cX15_isDone 116 = .ok (.aload_n 0, 1) := by decide +kernel
theorem dX15_isDone_117 : decode cX15_isDone 117 = .ok (.getfield 13, 3) := by decide +kernel
theorem dX15_isDone_120 : decode cX15_isDone 120 = .ok (.ifCond .ne 7, 3) := by decide +kernel
theorem dX15_isDone_123 : decode cX15_isDone 123 = .ok (.iconst 1, 1) := by decide +kernel
theorem dX15_isDone_124 : decode cX15_isDone 124 = .ok (.goto 4, 3) := by decide +kernel
theorem dX15_isDone_127 : decode cX15_isDone 127 = .ok (.iconst 0, 1) := by decide +kernel
theorem dX15_isDone_128 : decode cX15_isDone 128 = .ok (.if_icmp .eq 7, 3) := by decide +kernel
theorem dX15_isDone_131 : decode cX15_isDone 131 = .ok (.iconst 1, 1) := by decide +kernel
theorem dX15_isDone_132 : decode cX15_isDone 132 = .ok (.goto 4, 3) := by decide +kernel
theorem dX15_isDone_135 : decode cX15_isDone 135 = .ok (.iconst 0, 1) := by decide +kernel
theorem dX15_isDone_136 : decode cX15_isDone 136 = .ok (.istore_n 2, 1) := by decide +kernel
theorem dX15_isDone_137 : decode cX15_isDone 137 = .ok (.aload_n 1, 1) := by decide +kernel
theorem dX15_isDone_138 : decode cX15_isDone 138 = .ok (.getfield 79, 3) := by decide +kernel
theorem dX15_isDone_141 : decode cX15_isDone 141 = .ok (.aload_n 0, 1) := by decide +kernel
theorem dX15_isDone_142 : decode cX15_isDone 142 = .ok (.getfield 19, 3) := by decide +kernel
theorem dX15_isDone_145 : decode cX15_isDone 145 = .ok (.aload_n 0, 1) := by decide +kernel
theorem dX15_isDone_146 : decode cX15_isDone 146 = .ok (.getfield 13, 3) := by decide +kernel
theorem dX15_isDone_149 : decode cX15_isDone 149 = .ok (.ifCond .ne 7, 3) := by decide +kernel
theorem dX15_isDone_152 : decode cX15_isDone 152 = .ok (.iconst 1, 1) := by decide +kernel
theorem dX15_isDone_153 : decode cX15_isDone 153 = .ok (.goto 4, 3) := by decide +kernel
theorem dX15_isDone_156 : decode cX15_isDone 156 = .ok (.iconst 0, 1) := by decide +kernel
theorem dX15_isDone_157 : decode cX15_isDone 157 = .ok (.bastore, 1) := by decide +kernel
theorem dX15_isDone_158 : decode cX15_isDone 158 = .ok (.iload_n 2, 1) := by decide +kernel
theorem dX15_isDone_159 : decode cX15_isDone 159 = .ok (.ireturn, 1) := by decide +kernel
theorem dX16_init_0 : decode cX16_init 0 = .ok (.aload_n 0, 1) := by decide +kernel
theorem dX16_init_1 : decode cX16_init 1 = .ok (.invokespecial 1, 3) := by decide +kernel
theorem dX16_init_4 : decode cX16_init 4 = .ok (.aload_n 0, 1) := by decide +kernel
theorem dX16_init_5 : decode cX16_init 5 = .ok (.iconst 4, 1) := by decide +kernel
theorem dX16_init_6 : decode cX16_init 6 = .ok (.putfield 7, 3) := by decide +kernel
theorem dX16_init_9 : decode cX16_init 9 = .ok (.aload_n 0, 1) := by decide +kernel
theorem dX16_init_10 : decode cX16_init 10 = .ok (.bipush 6, 2) := by decide +kernel
theorem dX16_init_12 : decode cX16_init 12 = .ok (.putfield 13, 3) := by decide +kernel
theorem dX16_init_15 : decode cX16_init 15 = .ok (.aload_n 0, 1) := by decide +kernel
theorem dX16_init_16 : decode cX16_init 16 = .ok (.iconst 0, 1) := by decide +kernel
theorem dX16_init_17 : decode cX16_init 17 = .ok (.anewarray 16, 3) := by decide +kernel
theorem dX16_init_20 : decode cX16_init 20 = .ok (.putfield 18, 3) := by decide +kernel
theorem dX16_init_23 : decode cX16_init 23 = .ok (.aload_n 0, 1) := by decide +kernel
theorem dX16_init_24 : decode cX16_init 24 = .ok (.iconst 0, 1) := by decide +kernel
theorem dX16_init_25 : decode cX16_init 25 = .ok (.newarray .boolean, 2) := by decide +kernel
theorem dX16_init_27 : decode cX16_init 27 = .ok (.putfield 22, 3) := by decide +kernel
theorem dX16_init_30 : decode cX16_init 30 = .ok (.aload_n 0, 1) := by decide +kernel
theorem dX16_init_31 : decode cX16_init 31 = .ok (.iconst 0, 1) := by decide +kernel
theorem dX16_init_32 : decode cX16_init 32 = .ok (.newarray .int, 2) := by decide +kernel
theorem dX16_init_34 : decode cX16_init 34 = .ok (.putfield 26, 3) := by decide +kernel
theorem dX16_init_37 : decode cX16_init 37 = .ok (.aload_n 0, 1) := by decide +kernel
theorem dX16_init_38 : decode cX16_init 38 = .ok (.iconst 0, 1) := by decide +kernel
theorem dX16_init_39 : decode cX16_init 39 = .ok (.anewarray 29, 3) := by decide +kernel
theorem dX16_init_42 : decode cX16_init 42 = .ok (.putfield 31, 3) := by decide +kernel
theorem dX16_init_45 : decode cX16_init 45 = .ok (.aload_n 0, 1) := by decide +kernel
theorem dX16_init_46 : decode cX16_init 46 = .ok (.aload_n 1, 1) := by decide +kernel
theorem dX16_init_47 : decode cX16_init 47 = .ok (.putfield 35, 3) := by decide +kernel
theorem dX16_init_50 : decode cX16_init 50 = .ok (.aload_n 0, 1) := by decide +kernel
theorem dX16_init_51 : decode cX16_init 51 = .ok (.aload_n 2, 1) := by decide +kernel
theorem dX16_init_52 : decode cX16_init 52 = .ok (.putfield 38, 3) := by decide +kernel
theorem dX16_init_55 : decode cX16_init 55 = .ok (.return_, 1) := by decide +kernel
theorem dX16_contour_0 : decode cX16_contour 0 = .ok (.iload_n 1, 1) := by decide +kernel
theorem dX16_contour_1 : decode cX16_contour 1 = .ok (.aload_n 0, 1) := by decide +kernel
theorem dX16_contour_2 : decode cX16_contour 2 = .ok (.arraylength, 1) := by decide +kernel
theorem dX16_contour_3 : decode cX16_contour 3 = .ok (.iconst 1, 1) := by decide +kernel
theorem dX16_contour_4 : decode cX16_contour 4 = .ok (.isub, 1) := by decide +kernel
theorem dX16_contour_5 : decode cX16_contour 5 = .ok (.if_icmp .ne 5, 3) := by decide +kernel
theorem dX16_contour_8 : decode cX16_contour 8 = .ok (.iconst 0, 1) := by decide +kernel
theorem dX16_contour_9 : decode cX16_contour 9 = .ok (.ireturn, 1) := by decide +kernel
theorem dX16_contour_10 : decode cX16_contour 10 = .ok (.aload_n 0, 1) := by decide +kernel
theorem dX16_contour_11 : decode cX16_contour 11 = .ok (.iload_n 1, 1) := by decide +kernel
theorem dX16_contour_12 : decode cX16_contour 12 = .ok (.iconst 1, 1) := by decide +kernel
theorem dX16_contour_13 : decode cX16_contour 13 = .ok (.iadd, 1) := by decide +kernel
theorem dX16_contour_14 : decode cX16_contour 14 = .ok (.iaload, 1) := by decide +kernel
theorem dX16_contour_15 : decode cX16_contour 15 = .ok (.aload_n 0, 1) := by decide +kernel
theorem dX16_contour_16 : decode cX16_contour 16 = .ok (.iload_n 1, 1) := by decide +kernel
theorem dX16_contour_17 : decode cX16_contour 17 = .ok (.iaload, 1) := by decide +kernel
theorem dX16_contour_18 : decode cX16_contour 18 = .ok (.if_icmp .le 7, 3) := by decide +kernel
theorem dX16_contour_21 : decode cX16_contour 21 = .ok (.iconst 1, 1) := by decide +kernel
theorem dX16_contour_22 : decode cX16_contour 22 = .ok (.goto 19, 3) := by decide +kernel
theorem dX16_contour_25 : decode cX16_contour 25 = .ok (.aload_n 0, 1) := by decide +kernel
theorem dX16_contour_26 : decode cX16_contour 26 = .ok (.iload_n 1, 1) := by decide +kernel
theorem dX16_contour_27 : decode cX16_contour 27 = .ok (.iconst 1, 1) := by decide +kernel
theorem dX16_contour_28 : decode cX16_contour 28 = .ok (.iadd, 1) := by decide +kernel
theorem dX16_contour_29 : decode cX16_contour 29 = .ok (.iaload, 1) := by decide +kernel
theorem dX16_contour_30 : decode cX16_contour 30 = .ok (.aload_n 0, 1) := by decide +kernel
theorem dX16_contour_31 : decode cX16_contour 31 = .ok (.iload_n 1, 1) := by decide +kernel
theorem dX16_contour_32 : decode cX16_contour 32 = .ok (.iaload, 1) := by decide +kernel
theorem dX16_contour_33 : decode cX16_contour 33 = .ok (.if_icmp .ge 7, 3) := by decide +kernel
theorem dX16_contour_36 : decode cX16_contour 36 = .ok (.iconst (-1), 1) := by decide +kernel
theorem dX16_contour_37 : decode cX16_contour 37 = .ok (.goto 4, 3) := by decide +kernel
theorem dX16_contour_40 : decode cX16_contour 40 = .ok (.iconst 0, 1) := by decide +kernel
theorem dX16_contour_41 : decode cX16_contour 41 = .ok (.ireturn, 1) := by decide +kernel
theorem dX16_apart_0 : decode cX16_apart 0 = .ok (.iload_n 0, 1) := by decide +kernel
theorem dX16_apart_1 : decode cX16_apart 1 = .ok (.ifCond .ne 9, 3) := by decide +kernel
theorem dX16_apart_4 : decode cX16_apart 4 = .ok (.iload_n 1, 1) := by decide +kernel
theorem dX16_apart_5 : decode cX16_apart 5 = .ok (.ifCond .ne 5, 3) := by decide +kernel
theorem dX16_apart_8 : decode cX16_apart 8 = .ok (.iconst 0, 1) := by decide +kernel
theorem dX16_apart_9 : decode cX16_apart 9 = .ok (.ireturn, 1) := by decide +kernel
theorem dX16_apart_10 : decode cX16_apart 10 = .ok (.iload_n 0, 1) := by decide +kernel
theorem dX16_apart_11 : decode cX16_apart 11 = .ok (.ifCond .eq 7, 3) := by decide +kernel
theorem dX16_apart_14 : decode cX16_apart 14 = .ok (.iload_n 1, 1) := by decide +kernel
theorem dX16_apart_15 : decode cX16_apart 15 = .ok (.ifCond .ne 6, 3) := by decide +kernel
theorem dX16_apart_18 : decode cX16_apart 18 = .ok (.bipush 10, 2) := by decide +kernel
theorem dX16_apart_20 : decode cX16_apart 20 = .ok (.ireturn, 1) := by decide +kernel
theorem dX16_apart_21 : decode cX16_apart 21 = .ok (.iload_n 0, 1) := by decide +kernel
theorem dX16_apart_22 : decode cX16_apart 22 = .ok (.iload_n 1, 1) := by decide +kernel
theorem dX16_apart_23 : decode cX16_apart 23 = .ok (.if_icmp .ge 9, 3) := by decide +kernel
theorem dX16_apart_26 : decode cX16_apart 26 = .ok (.iload_n 1, 1) := by decide +kernel
theorem dX16_apart_27 : decode cX16_apart 27 = .ok (.iload_n 0, 1) := by decide +kernel
theorem dX16_apart_28 : decode cX16_apart 28 = .ok (.isub, 1) := by decide +kernel
theorem dX16_apart_29 : decode cX16_apart 29 = .ok (.goto 6, 3) := by decide +kernel
theorem dX16_apart_32 : decode cX16_apart 32 = .ok (.iload_n 0, 1) := by decide +kernel
theorem dX16_apart_33 : decode cX16_apart 33 = .ok (.iload_n 1, 1) := by decide +kernel
theorem dX16_apart_34 : decode cX16_apart 34 = .ok (.isub, 1) := by decide +kernel
theorem dX16_apart_35 : decode cX16_apart 35 = .ok (.ireturn, 1) := by decide +kernel
theorem dX16_way_0 : decode cX16_way 0 = .ok (.aload_n 1, 1) := by decide +kernel
theorem dX16_way_1 : decode cX16_way 1 = .ok (.arraylength, 1) := by decide +kernel
theorem dX16_way_2 : decode cX16_way 2 = .ok (.istore 4, 2) := by decide +kernel
theorem dX16_way_4 : decode cX16_way 4 = .ok (.aload_n 2, 1) := by decide +kernel
theorem dX16_way_5 : decode cX16_way 5 = .ok (.arraylength, 1) := by decide +kernel
theorem dX16_way_6 : decode cX16_way 6 = .ok (.istore 5, 2) := by decide +kernel
theorem dX16_way_8 : decode cX16_way 8 = .ok (.aload_n 0, 1) := by decide +kernel
theorem dX16_way_9 : decode cX16_way 9 = .ok (.getfield 7, 3) := by decide +kernel
theorem dX16_way_12 : decode cX16_way 12 = .ok (.iload 4, 2) := by decide +kernel
theorem dX16_way_14 : decode cX16_way 14 = .ok (.iload 5, 2) := by decide +kernel
theorem dX16_way_16 : decode cX16_way 16 = .ok (.if_icmp .ge 11, 3) := by decide +kernel
theorem dX16_way_19 : decode cX16_way 19 = .ok (.iload 5, 2) := by decide +kernel
theorem dX16_way_21 : decode cX16_way 21 = .ok (.iload 4, 2) := by decide +kernel
theorem dX16_way_23 : decode cX16_way 23 = .ok (.isub, 1) := by decide +kernel
theorem dX16_way_24 : decode cX16_way 24 = .ok (.goto 8, 3) := by decide +kernel
theorem dX16_way_27 : decode cX16_way 27 = .ok (.iload 4, 2) := by decide +kernel
theorem dX16_way_29 : decode cX16_way 29 = .ok (.iload 5, 2) := by decide +kernel
theorem dX16_way_31 : decode cX16_way 31 = .ok (.isub, 1) := by decide +kernel
theorem dX16_way_32 : decode cX16_way 32 = .ok (.iadd, 1) := by decide +kernel
theorem dX16_way_33 : decode cX16_way 33 = .ok (.istore 6, 2) := by decide +kernel
theorem dX16_way_35 : decode cX16_way 35 = .ok (.iload 4, 2) := by decide +kernel
theorem dX16_way_37 : decode cX16_way 37 = .ok (.iconst 1, 1) := by decide +kernel
theorem dX16_way_38 : decode cX16_way 38 = .ok (.isub, 1) := by decide +kernel
theorem dX16_way_39 : decode cX16_way 39 = .ok (.istore 7, 2) := by decide +kernel
theorem dX16_way_41 : decode cX16_way 41 = .ok (.iload 7, 2) := by decide +kernel
theorem dX16_way_43 : decode cX16_way 43 = .ok (.ifCond .lt 304, 3) := by decide +kernel
theorem dX16_way_46 : decode cX16_way 46 = .ok (.iload 5, 2) := by decide +kernel
theorem dX16_way_48 : decode cX16_way 48 = .ok (.iconst 1, 1) := by decide +kernel
theorem dX16_way_49 : decode cX16_way 49 = .ok (.isub, 1) := by decide +kernel
theorem dX16_way_50 : decode cX16_way 50 = .ok (.istore 8, 2) := by decide +kernel
theorem dX16_way_52 : decode cX16_way 52 = .ok (.iload 8, 2) := by decide +kernel
theorem dX16_way_54 : decode cX16_way 54 = .ok (.ifCond .lt 287, 3) := by decide +kernel
theorem dX16_way_57 : decode cX16_way 57 = .ok (.bipush 24, 2) := by decide +kernel
theorem dX16_way_59 : decode cX16_way 59 = .ok (.iload 7, 2) := by decide +kernel
theorem dX16_way_61 : decode cX16_way 61 = .ok (.imul, 1) := by decide +kernel
theorem dX16_way_62 : decode cX16_way 62 = .ok (.iload 8, 2) := by decide +kernel
theorem dX16_way_64 : decode cX16_way 64 = .ok (.iadd, 1) := by decide +kernel
theorem dX16_way_65 : decode cX16_way 65 = .ok (.istore 9, 2) := by decide +kernel
theorem dX16_way_67 : decode cX16_way 67 = .ok (.aload_n 0, 1) := by decide +kernel
theorem dX16_way_68 : decode cX16_way 68 = .ok (.getfield 35, 3) := by decide +kernel
theorem dX16_way_71 : decode cX16_way 71 = .ok (.iload 9, 2) := by decide +kernel
theorem dX16_way_73 : decode cX16_way 73 = .ok (.ldc 56, 2) := by decide +kernel
theorem dX16_way_75 : decode cX16_way 75 = .ok (.iastore, 1) := by decide +kernel
theorem dX16_way_76 : decode cX16_way 76 = .ok (.iload 7, 2) := by decide +kernel
theorem dX16_way_78 : decode cX16_way 78 = .ok (.iload 8, 2) := by decide +kernel
theorem dX16_way_80 : decode cX16_way 80 = .ok (.isub, 1) := by decide +kernel
theorem dX16_way_81 : decode cX16_way 81 = .ok (.iload 6, 2) := by decide +kernel
theorem dX16_way_83 : decode cX16_way 83 = .ok (.if_icmp .gt 252, 3) := by decide +kernel
theorem dX16_way_86 : decode cX16_way 86 = .ok (.iload 8, 2) := by decide +kernel
theorem dX16_way_88 : decode cX16_way 88 = .ok (.iload 7, 2) := by decide +kernel
theorem dX16_way_90 : decode cX16_way 90 = .ok (.isub, 1) := by decide +kernel
theorem dX16_way_91 : decode cX16_way 91 = .ok (.iload 6, 2) := by decide +kernel
theorem dX16_way_93 : decode cX16_way 93 = .ok (.if_icmp .le 6, 3) := by decide +kernel
theorem dX16_way_96 : decode cX16_way 96 = .ok (.goto 239, 3) := by decide +kernel
theorem dX16_way_99 : decode cX16_way 99 = .ok (.iload_n 3, 1) := by decide +kernel
theorem dX16_way_100 : decode cX16_way 100 = .ok (.ifCond .eq 26, 3) := by decide +kernel
theorem dX16_way_103 : decode cX16_way 103 = .ok (.aload_n 1, 1) := by decide +kernel
theorem dX16_way_104 : decode cX16_way 104 = .ok (.iload 7, 2) := by decide +kernel
theorem dX16_way_106 : decode cX16_way 106 = .ok (.invokestatic 57, 3) := by decide +kernel
theorem dX16_way_109 : decode cX16_way 109 = .ok (.aload_n 2, 1) := by decide +kernel
theorem dX16_way_110 : decode cX16_way 110 = .ok (.iload 8, 2) := by decide +kernel
theorem dX16_way_112 : decode cX16_way 112 = .ok (.invokestatic 57, 3) := by decide +kernel
theorem dX16_way_115 : decode cX16_way 115 = .ok (.if_icmp .eq 7, 3) := by decide +kernel
theorem dX16_way_118 : decode cX16_way 118 = .ok (.iconst 1, 1) := by decide +kernel
theorem dX16_way_119 : decode cX16_way 119 = .ok (.goto 18, 3) := by decide +kernel
theorem dX16_way_122 : decode cX16_way 122 = .ok (.iconst 0, 1) := by decide +kernel
theorem dX16_way_123 : decode cX16_way 123 = .ok (.goto 14, 3) := by decide +kernel
theorem dX16_way_126 : decode cX16_way 126 = .ok (.aload_n 1, 1) := by decide +kernel
theorem dX16_way_127 : decode cX16_way 127 = .ok (.iload 7, 2) := by decide +kernel
theorem dX16_way_129 : decode cX16_way 129 = .ok (.iaload, 1) := by decide +kernel
theorem dX16_way_130 : decode cX16_way 130 = .ok (.aload_n 2, 1) := by decide +kernel
theorem dX16_way_131 : decode cX16_way 131 = .ok (.iload 8, 2) := by decide +kernel
theorem dX16_way_133 : decode cX16_way 133 = .ok (.iaload, 1) := by decide +kernel
theorem dX16_way_134 : decode cX16_way 134 = .ok (.invokestatic 61, 3) := by decide +kernel
theorem dX16_way_137 : decode cX16_way 137 = .ok (.istore 10, 2) := by decide +kernel
theorem dX16_way_139 : decode cX16_way 139 = .ok (.iload 7, 2) := by decide +kernel
theorem dX16_way_141 : decode cX16_way 141 = .ok (.iload 4, 2) := by decide +kernel
theorem dX16_way_143 : decode cX16_way 143 = .ok (.iconst 1, 1) := by decide +kernel
theorem dX16_way_144 : decode cX16_way 144 = .ok (.isub, 1) := by decide +kernel
theorem dX16_way_145 : decode cX16_way 145 = .ok (.if_icmp .ne 32, 3) := by decide +kernel
theorem dX16_way_148 : decode cX16_way 148 = .ok (.iload 8, 2) := by decide +kernel
theorem dX16_way_150 : decode cX16_way 150 = .ok (.iload 5, 2) := by decide +kernel
theorem dX16_way_152 : decode cX16_way 152 = .ok (.iconst 1, 1) := by decide +kernel
theorem dX16_way_153 : decode cX16_way 153 = .ok (.isub, 1) := by decide +kernel
theorem dX16_way_154 : decode cX16_way 154 = .ok (.if_icmp .ne 23, 3) := by decide +kernel
theorem dX16_way_157 : decode cX16_way 157 = .ok (.aload_n 0, 1) := by decide +kernel
theorem dX16_way_158 : decode cX16_way 158 = .ok (.getfield 35, 3) := by decide +kernel
theorem dX16_way_161 : decode cX16_way 161 = .ok (.iload 9, 2) := by decide +kernel
theorem dX16_way_163 : decode cX16_way 163 = .ok (.iload 10, 2) := by decide +kernel
theorem dX16_way_165 : decode cX16_way 165 = .ok (.iastore, 1) := by decide +kernel
theorem dX16_way_166 : decode cX16_way 166 = .ok (.aload_n 0, 1) := by decide +kernel
theorem dX16_way_167 : decode cX16_way 167 = .ok (.getfield 38, 3) := by decide +kernel
theorem dX16_way_170 : decode cX16_way 170 = .ok (.iload 9, 2) := by decide +kernel
theorem dX16_way_172 : decode cX16_way 172 = .ok (.iconst 1, 1) := by decide +kernel
theorem dX16_way_173 : decode cX16_way 173 = .ok (.iastore, 1) := by decide +kernel
theorem dX16_way_174 : decode cX16_way 174 = .ok (.goto 161, 3) := by decide +kernel
theorem dX16_way_177 : decode cX16_way 177 = .ok (.iconst 1, 1) := by decide +kernel
theorem dX16_way_178 : decode cX16_way 178 = .ok (.istore 11, 2) := by decide +kernel
theorem dX16_way_180 : decode cX16_way 180 = .ok (.iload 11, 2) := by decide +kernel
theorem dX16_way_182 : decode cX16_way 182 = .ok (.iconst 4, 1) := by decide +kernel
theorem dX16_way_183 : decode cX16_way 183 = .ok (.if_icmp .ge 152, 3) := by decide +kernel
theorem dX16_way_186 : decode cX16_way 186 = .ok (.iload 7, 2) := by decide +kernel
theorem dX16_way_188 : decode cX16_way 188 = .ok (.iload 11, 2) := by decide +kernel
theorem dX16_way_190 : decode cX16_way 190 = .ok (.iconst 1, 1) := by decide +kernel
theorem dX16_way_191 : decode cX16_way 191 = .ok (.iand, 1) := by decide +kernel
theorem dX16_way_192 : decode cX16_way 192 = .ok (.iadd, 1) := by decide +kernel
theorem dX16_way_193 : decode cX16_way 193 = .ok (.istore 12, 2) := by decide +kernel
theorem dX16_way_195 : decode cX16_way 195 = .ok (.iload 8, 2) := by decide +kernel
theorem dX16_way_197 : decode cX16_way 197 = .ok (.iload 11, 2) := by decide +kernel
theorem dX16_way_199 : decode cX16_way 199 = .ok (.iconst 1, 1) := by decide +kernel
theorem dX16_way_200 : decode cX16_way 200 = .ok (.ishr, 1) := by decide +kernel
theorem dX16_way_201 : decode cX16_way 201 = .ok (.iadd, 1) := by decide +kernel
theorem dX16_way_202 : decode cX16_way 202 = .ok (.istore 13, 2) := by decide +kernel
theorem dX16_way_204 : decode cX16_way 204 = .ok (.iload 12, 2) := by decide +kernel
theorem dX16_way_206 : decode cX16_way 206 = .ok (.iload 4, 2) := by decide +kernel
theorem dX16_way_208 : decode cX16_way 208 = .ok (.if_icmp .eq 121, 3) := by decide +kernel
theorem dX16_way_211 : decode cX16_way 211 = .ok (.iload 13, 2) := by decide +kernel
theorem dX16_way_213 : decode cX16_way 213 = .ok (.iload 5, 2) := by decide +kernel
theorem dX16_way_215 : decode cX16_way 215 = .ok (.if_icmp .ne 6, 3) := by decide +kernel
theorem dX16_way_218 : decode cX16_way 218 = .ok (.goto 111, 3) := by decide +kernel
theorem dX16_way_221 : decode cX16_way 221 = .ok (.bipush 24, 2) := by decide +kernel
theorem dX16_way_223 : decode cX16_way 223 = .ok (.iload 12, 2) := by decide +kernel
theorem dX16_way_225 : decode cX16_way 225 = .ok (.imul, 1) := by decide +kernel
theorem dX16_way_226 : decode cX16_way 226 = .ok (.iload 13, 2) := by decide +kernel
theorem dX16_way_228 : decode cX16_way 228 = .ok (.iadd, 1) := by decide +kernel
theorem dX16_way_229 : decode cX16_way 229 = .ok (.istore 14, 2) := by decide +kernel
theorem dX16_way_231 : decode cX16_way 231 = .ok (.aload_n 0, 1) := by decide +kernel
theorem dX16_way_232 : decode cX16_way 232 = .ok (.getfield 35, 3) := by decide +kernel
theorem dX16_way_235 : decode cX16_way 235 = .ok (.iload 14, 2) := by decide +kernel
theorem dX16_way_237 : decode cX16_way 237 = .ok (.iaload, 1) := by decide +kernel
theorem dX16_way_238 : decode cX16_way 238 = .ok (.ldc 56, 2) := by decide +kernel
theorem dX16_way_240 : decode cX16_way 240 = .ok (.if_icmp .lt 6, 3) := by decide +kernel
theorem dX16_way_243 : decode cX16_way 243 = .ok (.goto 86, 3) := by decide +kernel
theorem dX16_way_246 : decode cX16_way 246 = .ok (.aload_n 0, 1) := by decide +kernel
theorem dX16_way_247 : decode cX16_way 247 = .ok (.getfield 35, 3) := by decide +kernel
theorem dX16_way_250 : decode cX16_way 250 = .ok (.iload 14, 2) := by decide +kernel
theorem dX16_way_252 : decode cX16_way 252 = .ok (.iaload, 1) := by decide +kernel
theorem dX16_way_253 : decode cX16_way 253 = .ok (.iload 10, 2) := by decide +kernel
theorem dX16_way_255 : decode cX16_way 255 = .ok (.iadd, 1) := by decide +kernel
theorem dX16_way_256 : decode cX16_way 256 = .ok (.istore 15, 2) := by decide +kernel
theorem dX16_way_258 : decode cX16_way 258 = .ok (.iload 15, 2) := by decide +kernel
theorem dX16_way_260 : decode cX16_way 260 = .ok (.aload_n 0, 1) := by decide +kernel
theorem dX16_way_261 : decode cX16_way 261 = .ok (.getfield 35, 3) := by decide +kernel
theorem dX16_way_264 : decode cX16_way 264 = .ok (.iload 9, 2) := by decide +kernel
theorem dX16_way_266 : decode cX16_way 266 = .ok (.iaload, 1) := by decide +kernel
theorem dX16_way_267 : decode cX16_way 267 = .ok (.if_icmp .gt 62, 3) := by decide +kernel
theorem dX16_way_270 : decode cX16_way 270 = .ok (.iload 15, 2) := by decide +kernel
theorem dX16_way_272 : decode cX16_way 272 = .ok (.aload_n 0, 1) := by decide +kernel
theorem dX16_way_273 : decode cX16_way 273 = .ok (.getfield 35, 3) := by decide +kernel
theorem dX16_way_276 : decode cX16_way 276 = .ok (.iload 9, 2) := by decide +kernel
theorem dX16_way_278 : decode cX16_way 278 = .ok (.iaload, 1) := by decide +kernel
theorem dX16_way_279 : decode cX16_way 279 = .ok (.if_icmp .ne 25, 3) := by decide +kernel
theorem dX16_way_282 : decode cX16_way 282 = .ok (.aload_n 0, 1) := by decide +kernel
theorem dX16_way_283 : decode cX16_way 283 = .ok (.getfield 38, 3) := by decide +kernel
theorem dX16_way_286 : decode cX16_way 286 = .ok (.iload 14, 2) := by decide +kernel
theorem dX16_way_288 : decode cX16_way 288 = .ok (.iaload, 1) := by decide +kernel
theorem dX16_way_289 : decode cX16_way 289 = .ok (.iconst 1, 1) := by decide +kernel
theorem dX16_way_290 : decode cX16_way 290 = .ok (.iadd, 1) := by decide +kernel
theorem dX16_way_291 : decode cX16_way 291 = .ok (.aload_n 0, 1) := by decide +kernel
theorem dX16_way_292 : decode cX16_way 292 = .ok (.getfield 38, 3) := by decide +kernel
theorem dX16_way_295 : decode cX16_way 295 = .ok (.iload 9, 2) := by decide +kernel
theorem dX16_way_297 : decode cX16_way 297 = .ok (.iaload, 1) := by decide +kernel
theorem dX16_way_298 : decode cX16_way 298 = .ok (.if_icmp .lt 6, 3) := by decide +kernel
theorem dX16_way_301 : decode cX16_way 301 = .ok (.goto 28, 3) := by decide +kernel
theorem dX16_way_304 : decode cX16_way 304 = .ok (.aload_n 0, 1) := by decide +kernel
theorem dX16_way_305 : decode cX16_way 305 = .ok (.getfield 35, 3) := by decide +kernel
theorem dX16_way_308 : decode cX16_way 308 = .ok (.iload 9, 2) := by decide +kernel
theorem dX16_way_310 : decode cX16_way 310 = .ok (.iload 15, 2) := by decide +kernel
theorem dX16_way_312 : decode cX16_way 312 = .ok (.iastore, 1) := by decide +kernel
theorem dX16_way_313 : decode cX16_way 313 = .ok (.aload_n 0, 1) := by decide +kernel
theorem dX16_way_314 : decode cX16_way 314 = .ok (.getfield 38, 3) := by decide +kernel
theorem dX16_way_317 : decode cX16_way 317 = .ok (.iload 9, 2) := by decide +kernel
theorem dX16_way_319 : decode cX16_way 319 = .ok (.aload_n 0, 1) := by decide +kernel
theorem dX16_way_320 : decode cX16_way 320 = .ok (.getfield 38, 3) := by decide +kernel
theorem dX16_way_323 : decode cX16_way 323 = .ok (.iload 14, 2) := by decide +kernel
theorem dX16_way_325 : decode cX16_way 325 = .ok (.iaload, 1) := by decide +kernel
theorem dX16_way_326 : decode cX16_way 326 = .ok (.iconst 1, 1) := by decide +kernel
theorem dX16_way_327 : decode cX16_way 327 = .ok (.iadd, 1) := by decide +kernel
theorem dX16_way_328 : decode cX16_way 328 = .ok (.iastore, 1) := by decide +kernel
theorem dX16_way_329 : decode cX16_way 329 = .ok (.iinc 11 1, 3) := by decide +kernel
theorem dX16_way_332 : decode cX16_way 332 = .ok (.goto (-152), 3) := by decide +kernel
theorem dX16_way_335 : decode cX16_way 335 = .ok (.iinc 8 (-1), 3) := by decide +kernel
theorem dX16_way_338 : decode cX16_way 338 = .ok (.goto (-286), 3) := by decide +kernel
theorem dX16_way_341 : decode cX16_way 341 = .ok (.iinc 7 (-1), 3) := by decide +kernel
theorem dX16_way_344 : decode cX16_way 344 = .ok (.goto (-303), 3) := by decide +kernel
theorem dX16_way_347 : decode cX16_way 347 = .ok (.aload_n 0, 1) := by decide +kernel
theorem dX16_way_348 : decode cX16_way 348 = .ok (.getfield 35, 3) := by decide +kernel
theorem dX16_way_351 : decode cX16_way 351 = .ok (.iconst 0, 1) := by decide +kernel
theorem dX16_way_352 : decode cX16_way 352 = .ok (.iaload, 1) := by decide +kernel
theorem dX16_way_353 : decode cX16_way 353 = .ok (.ireturn, 1) := by decide +kernel
theorem dX16_far_0 : decode cX16_far 0 = .ok (.aload_n 0, 1) := by decide +kernel
theorem dX16_far_1 : decode cX16_far 1 = .ok (.aload_n 1, 1) := by decide +kernel
theorem dX16_far_2 : decode cX16_far 2 = .ok (.aload_n 2, 1) := by decide +kernel
theorem dX16_far_3 : decode cX16_far 3 = .ok (.iconst 0, 1) := by decide +kernel
theorem dX16_far_4 : decode cX16_far 4 = .ok (.invokevirtual 65, 3) := by decide +kernel
theorem dX16_far_7 : decode cX16_far 7 = .ok (.ireturn, 1) := by decide +kernel
theorem dX16_meant_0 : decode cX16_meant 0 = .ok (.iconst (-1), 1) := by decide +kernel
theorem dX16_meant_1 : decode cX16_meant 1 = .ok (.istore_n 2, 1) := by decide +kernel
theorem dX16_meant_2 : decode cX16_meant 2 = .ok (.iconst 0, 1) := by decide +kernel
theorem dX16_meant_3 : decode cX16_meant 3 = .ok (.istore_n 3, 1) := by decide +kernel
theorem dX16_meant_4 : decode cX16_meant 4 = .ok (.aload_n 0, 1) := by decide +kernel
theorem dX16_meant_5 : decode cX16_meant 5 = .ok (.getfield 18, 3) := by decide +kernel
theorem dX16_meant_8 : decode cX16_meant 8 = .ok (.arraylength, 1) := by decide +kernel
theorem dX16_meant_9 : decode cX16_meant 9 = .ok (.iconst 1, 1) := by decide +kernel
theorem dX16_meant_10 : decode cX16_meant 10 = .ok (.isub, 1) := by decide +kernel
theorem dX16_meant_11 : decode cX16_meant 11 = .ok (.istore 4, 2) := by decide +kernel
theorem dX16_meant_13 : decode cX16_meant 13 = .ok (.iload 4, 2) := by decide +kernel
theorem dX16_meant_15 : decode cX16_meant 15 = .ok (.ifCond .lt 72, 3) := by decide +kernel
theorem dX16_meant_18 : decode cX16_meant 18 = .ok (.aload_n 0, 1) := by decide +kernel
theorem dX16_meant_19 : decode cX16_meant 19 = .ok (.getfield 26, 3) := by decide +kernel
theorem dX16_meant_22 : decode cX16_meant 22 = .ok (.arraylength, 1) := by decide +kernel
theorem dX16_meant_23 : decode cX16_meant 23 = .ok (.ifCond .eq 58, 3) := by decide +kernel
theorem dX16_meant_26 : decode cX16_meant 26 = .ok (.aload_n 0, 1) := by decide +kernel
theorem dX16_meant_27 : decode cX16_meant 27 = .ok (.getfield 22, 3) := by decide +kernel
theorem dX16_meant_30 : decode cX16_meant 30 = .ok (.iload 4, 2) := by decide +kernel
theorem dX16_meant_32 : decode cX16_meant 32 = .ok (.baload, 1) := by decide +kernel
theorem dX16_meant_33 : decode cX16_meant 33 = .ok (.ifCond .ne 48, 3) := by decide +kernel
theorem dX16_meant_36 : decode cX16_meant 36 = .ok (.iload 4, 2) := by decide +kernel
theorem dX16_meant_38 : decode cX16_meant 38 = .ok (.iload_n 1, 1) := by decide +kernel
theorem dX16_meant_39 : decode cX16_meant 39 = .ok (.if_icmp .ne 6, 3) := by decide +kernel
theorem dX16_meant_42 : decode cX16_meant 42 = .ok (.goto 39, 3) := by decide +kernel
theorem dX16_meant_45 : decode cX16_meant 45 = .ok (.aload_n 0, 1) := by decide +kernel
theorem dX16_meant_46 : decode cX16_meant 46 = .ok (.aload_n 0, 1) := by decide +kernel
theorem dX16_meant_47 : decode cX16_meant 47 = .ok (.getfield 18, 3) := by decide +kernel
theorem dX16_meant_50 : decode cX16_meant 50 = .ok (.iload 4, 2) := by decide +kernel
theorem dX16_meant_52 : decode cX16_meant 52 = .ok (.aaload, 1) := by decide +kernel
theorem dX16_meant_53 : decode cX16_meant 53 = .ok (.aload_n 0, 1) := by decide +kernel
theorem dX16_meant_54 : decode cX16_meant 54 = .ok (.getfield 26, 3) := by decide +kernel
theorem dX16_meant_57 : decode cX16_meant 57 = .ok (.invokevirtual 69, 3) := by decide +kernel
theorem dX16_meant_60 : decode cX16_meant 60 = .ok (.istore 5, 2) := by decide +kernel
theorem dX16_meant_62 : decode cX16_meant 62 = .ok (.iload_n 2, 1) := by decide +kernel
theorem dX16_meant_63 : decode cX16_meant 63 = .ok (.ifCond .lt 12, 3) := by decide +kernel
theorem dX16_meant_66 : decode cX16_meant 66 = .ok (.iload 5, 2) := by decide +kernel
theorem dX16_meant_68 : decode cX16_meant 68 = .ok (.iload_n 3, 1) := by decide +kernel
theorem dX16_meant_69 : decode cX16_meant 69 = .ok (.if_icmp .le 6, 3) := by decide +kernel
theorem dX16_meant_72 : decode cX16_meant 72 = .ok (.goto 9, 3) := by decide +kernel
theorem dX16_meant_75 : decode cX16_meant 75 = .ok (.iload 4, 2) := by decide +kernel
theorem dX16_meant_77 : decode cX16_meant 77 = .ok (.istore_n 2, 1) := by decide +kernel
theorem dX16_meant_78 : decode cX16_meant 78 = .ok (.iload 5, 2) := by decide +kernel
theorem dX16_meant_80 : decode cX16_meant 80 = .ok (.istore_n 3, 1) := by decide +kernel
theorem dX16_meant_81 : decode cX16_meant 81 = .ok (.iinc 4 (-1), 3) := by decide +kernel
theorem dX16_meant_84 : decode cX16_meant 84 = .ok (.goto (-71), 3) := by decide +kernel
theorem dX16_meant_87 : decode cX16_meant 87 = .ok (.iload_n 2, 1) := by decide +kernel
theorem dX16_meant_88 : decode cX16_meant 88 = .ok (.ireturn, 1) := by decide +kernel
theorem dX16_kept_0 : decode cX16_kept 0 = .ok (.iconst 0, 1) := by decide +kernel
theorem dX16_kept_1 : decode cX16_kept 1 = .ok (.istore_n 1, 1) := by decide +kernel
theorem dX16_kept_2 : decode cX16_kept 2 = .ok (.aload_n 0, 1) := by decide +kernel
theorem dX16_kept_3 : decode cX16_kept 3 = .ok (.getfield 22, 3) := by decide +kernel
theorem dX16_kept_6 : decode cX16_kept 6 = .ok (.astore_n 2, 1) := by decide +kernel
theorem dX16_kept_7 : decode cX16_kept 7 = .ok (.aload_n 2, 1) := by decide +kernel
theorem dX16_kept_8 : decode cX16_kept 8 = .ok (.arraylength, 1) := by decide +kernel
theorem dX16_kept_9 : decode cX16_kept 9 = .ok (.istore_n 3, 1) := by decide +kernel
theorem dX16_kept_10 : decode cX16_kept 10 = .ok (.iconst 0, 1) := by decide +kernel
theorem dX16_kept_11 : decode cX16_kept 11 = .ok (.istore 4, 2) := by decide +kernel
theorem dX16_kept_13 : decode cX16_kept 13 = .ok (.iload 4, 2) := by decide +kernel
theorem dX16_kept_15 : decode cX16_kept 15 = .ok (.iload_n 3, 1) := by decide +kernel
theorem dX16_kept_16 : decode cX16_kept 16 = .ok (.if_icmp .ge 28, 3) := by decide +kernel
theorem dX16_kept_19 : decode cX16_kept 19 = .ok (.aload_n 2, 1) := by decide +kernel
theorem dX16_kept_20 : decode cX16_kept 20 = .ok (.iload 4, 2) := by decide +kernel
theorem dX16_kept_22 : decode cX16_kept 22 = .ok (.baload, 1) := by decide +kernel
theorem dX16_kept_23 : decode cX16_kept 23 = .ok (.istore 5, 2) := by decide +kernel
theorem dX16_kept_25 : decode cX16_kept 25 = .ok (.iload_n 1, 1) := by decide +kernel
theorem dX16_kept_26 : decode cX16_kept 26 = .ok (.iload 5, 2) := by decide +kernel
theorem dX16_kept_28 : decode cX16_kept 28 = .ok (.ifCond .eq 7, 3) := by decide +kernel
theorem dX16_kept_31 : decode cX16_kept 31 = .ok (.iconst 0, 1) := by decide +kernel
theorem dX16_kept_32 : decode cX16_kept 32 = .ok (.goto 4, 3) := by decide +kernel
theorem dX16_kept_35 : decode cX16_kept 35 = .ok (.iconst 1, 1) := by decide +kernel
theorem dX16_kept_36 : decode cX16_kept 36 = .ok (.iadd, 1) := by decide +kernel
theorem dX16_kept_37 : decode cX16_kept 37 = .ok (.istore_n 1, 1) := by decide +kernel
theorem dX16_kept_38 : decode cX16_kept 38 = .ok (.iinc 4 1, 3) := by decide +kernel
theorem dX16_kept_41 : decode cX16_kept 41 = .ok (.goto (-28), 3) := by decide +kernel
theorem dX16_kept_44 : decode cX16_kept 44 = .ok (.iload_n 1, 1) := by decide +kernel
theorem dX16_kept_45 : decode cX16_kept 45 = .ok (.ireturn, 1) := by decide +kernel
theorem dX16_near_0 : decode cX16_near 0 = .ok (.iload_n 1, 1) := by decide +kernel
theorem dX16_near_1 : decode cX16_near 1 = .ok (.iload_n 2, 1) := by decide +kernel
theorem dX16_near_2 : decode cX16_near 2 = .ok (.if_icmp .ne 5, 3) := by decide +kernel
theorem dX16_near_5 : decode cX16_near 5 = .ok (.iconst 0, 1) := by decide +kernel
theorem dX16_near_6 : decode cX16_near 6 = .ok (.ireturn, 1) := by decide +kernel
theorem dX16_near_7 : decode cX16_near 7 = .ok (.aload_n 0, 1) := by decide +kernel
theorem dX16_near_8 : decode cX16_near 8 = .ok (.getfield 18, 3) := by decide +kernel
theorem dX16_near_11 : decode cX16_near 11 = .ok (.iload_n 1, 1) := by decide +kernel
theorem dX16_near_12 : decode cX16_near 12 = .ok (.aaload, 1) := by decide +kernel
theorem dX16_near_13 : decode cX16_near 13 = .ok (.arraylength, 1) := by decide +kernel
theorem dX16_near_14 : decode cX16_near 14 = .ok (.aload_n 0, 1) := by decide +kernel
theorem dX16_near_15 : decode cX16_near 15 = .ok (.getfield 18, 3) := by decide +kernel
theorem dX16_near_18 : decode cX16_near 18 = .ok (.iload_n 2, 1) := by decide +kernel
theorem dX16_near_19 : decode cX16_near 19 = .ok (.aaload, 1) := by decide +kernel
theorem dX16_near_20 : decode cX16_near 20 = .ok (.arraylength, 1) := by decide +kernel
theorem dX16_near_21 : decode cX16_near 21 = .ok (.if_icmp .le 13, 3) := by decide +kernel
theorem dX16_near_24 : decode cX16_near 24 = .ok (.aload_n 0, 1) := by decide +kernel
theorem dX16_near_25 : decode cX16_near 25 = .ok (.getfield 18, 3) := by decide +kernel
theorem dX16_near_28 : decode cX16_near 28 = .ok (.iload_n 1, 1) := by decide +kernel
theorem dX16_near_29 : decode cX16_near 29 = .ok (.aaload, 1) := by decide +kernel
theorem dX16_near_30 : decode cX16_near 30 = .ok (.arraylength, 1) := by decide +kernel
theorem dX16_near_31 : decode cX16_near 31 = .ok (.goto 10, 3) := by decide +kernel
theorem dX16_near_34 : decode cX16_near 34 = .ok (.aload_n 0, 1) := by decide +kernel
theorem dX16_near_35 : decode cX16_near 35 = .ok (.getfield 18, 3) := by decide +kernel
theorem dX16_near_38 : decode cX16_near 38 = .ok (.iload_n 2, 1) := by decide +kernel
theorem dX16_near_39 : decode cX16_near 39 = .ok (.aaload, 1) := by decide +kernel
theorem dX16_near_40 : decode cX16_near 40 = .ok (.arraylength, 1) := by decide +kernel
theorem dX16_near_41 : decode cX16_near 41 = .ok (.istore_n 3, 1) := by decide +kernel
theorem dX16_near_42 : decode cX16_near 42 = .ok (.aload_n 0, 1) := by decide +kernel
theorem dX16_near_43 : decode cX16_near 43 = .ok (.aload_n 0, 1) := by decide +kernel
theorem dX16_near_44 : decode cX16_near 44 = .ok (.getfield 18, 3) := by decide +kernel
theorem dX16_near_47 : decode cX16_near 47 = .ok (.iload_n 1, 1) := by decide +kernel
theorem dX16_near_48 : decode cX16_near 48 = .ok (.aaload, 1) := by decide +kernel
theorem dX16_near_49 : decode cX16_near 49 = .ok (.aload_n 0, 1) := by decide +kernel
theorem dX16_near_50 : decode cX16_near 50 = .ok (.getfield 18, 3) := by decide +kernel
theorem dX16_near_53 : decode cX16_near 53 = .ok (.iload_n 2, 1) := by decide +kernel
theorem dX16_near_54 : decode cX16_near 54 = .ok (.aaload, 1) := by decide +kernel
theorem dX16_near_55 : decode cX16_near 55 = .ok (.invokevirtual 69, 3) := by decide +kernel
theorem dX16_near_58 : decode cX16_near 58 = .ok (.aload_n 0, 1) := by decide +kernel
theorem dX16_near_59 : decode cX16_near 59 = .ok (.getfield 13, 3) := by decide +kernel
theorem dX16_near_62 : decode cX16_near 62 = .ok (.iload_n 3, 1) := by decide +kernel
theorem dX16_near_63 : decode cX16_near 63 = .ok (.imul, 1) := by decide +kernel
theorem dX16_near_64 : decode cX16_near 64 = .ok (.iconst 4, 1) := by decide +kernel
theorem dX16_near_65 : decode cX16_near 65 = .ok (.idiv, 1) := by decide +kernel
theorem dX16_near_66 : decode cX16_near 66 = .ok (.if_icmp .ge 7, 3) := by decide +kernel
theorem dX16_near_69 : decode cX16_near 69 = .ok (.iconst 1, 1) := by decide +kernel
theorem dX16_near_70 : decode cX16_near 70 = .ok (.goto 4, 3) := by decide +kernel
theorem dX16_near_73 : decode cX16_near 73 = .ok (.iconst 0, 1) := by decide +kernel
theorem dX16_near_74 : decode cX16_near 74 = .ok (.ireturn, 1) := by decide +kernel
theorem dX16_needless_0 : decode cX16_needless 0 = .ok (.iconst 0, 1) := by decide +kernel
theorem dX16_needless_1 : decode cX16_needless 1 = .ok (.istore_n 2, 1) := by decide +kernel
theorem dX16_needless_2 : decode cX16_needless 2 = .ok (.iload_n 2, 1) := by decide +kernel
theorem dX16_needless_3 : decode cX16_needless 3 = .ok (.iload_n 1, 1) := by decide +kernel
theorem dX16_needless_4 : decode cX16_needless 4 = .ok (.if_icmp .ge 38, 3) := by decide +kernel
theorem dX16_needless_7 : decode cX16_needless 7 = .ok (.aload_n 0, 1) := by decide +kernel
theorem dX16_needless_8 : decode cX16_needless 8 = .ok (.getfield 22, 3) := by decide +kernel
theorem dX16_needless_11 : decode cX16_needless 11 = .ok (.iload_n 1, 1) := by decide +kernel
theorem dX16_needless_12 : decode cX16_needless 12 = .ok (.baload, 1) := by decide +kernel
theorem dX16_needless_13 : decode cX16_needless 13 = .ok (.ifCond .ne 29, 3) := by decide +kernel
theorem dX16_needless_16 : decode cX16_needless 16 = .ok (.aload_n 0, 1) := by decide +kernel
theorem dX16_needless_17 : decode cX16_needless 17 = .ok (.getfield 22, 3) := by decide +kernel
theorem dX16_needless_20 : decode cX16_needless 20 = .ok (.iload_n 2, 1) := by decide +kernel
theorem dX16_needless_21 : decode cX16_needless 21 = .ok (.baload, 1) := by decide +kernel
theorem dX16_needless_22 : decode cX16_needless 22 = .ok (.ifCond .ne 14, 3) := by decide +kernel
theorem dX16_needless_25 : decode cX16_needless 25 = .ok (.aload_n 0, 1) := by decide +kernel
theorem dX16_needless_26 : decode cX16_needless 26 = .ok (.iload_n 2, 1) := by decide +kernel
theorem dX16_needless_27 : decode cX16_needless 27 = .ok (.iload_n 1, 1) := by decide +kernel
theorem dX16_needless_28 : decode cX16_needless 28 = .ok (.invokevirtual 73, 3) := by decide +kernel
theorem dX16_needless_31 : decode cX16_needless 31 = .ok (.ifCond .eq 5, 3) := by decide +kernel
theorem dX16_needless_34 : decode cX16_needless 34 = .ok (.iconst 1, 1) := by decide +kernel
theorem dX16_needless_35 : decode cX16_needless 35 = .ok (.ireturn, 1) := by decide +kernel
theorem dX16_needless_36 : decode cX16_needless 36 = .ok (.iinc 2 1, 3) := by decide +kernel
theorem dX16_needless_39 : decode cX16_needless 39 = .ok (.goto (-37), 3) := by decide +kernel
theorem dX16_needless_42 : decode cX16_needless 42 = .ok (.iconst 0, 1) := by decide +kernel
theorem dX16_needless_43 : decode cX16_needless 43 = .ok (.ireturn, 1) := by decide +kernel
theorem dX16_shifted_0 : decode cX16_shifted 0 = .ok (.aload_n 0, 1) := by decide +kernel
theorem dX16_shifted_1 : decode cX16_shifted 1 = .ok (.invokevirtual 44, 3) := by decide +kernel
theorem dX16_shifted_4 : decode cX16_shifted 4 = .ok (.checkcast 16, 3) := by decide +kernel
theorem dX16_shifted_7 : decode cX16_shifted 7 = .ok (.astore_n 3, 1) := by decide +kernel
theorem dX16_shifted_8 : decode cX16_shifted 8 = .ok (.iconst 0, 1) := by decide +kernel
theorem dX16_shifted_9 : decode cX16_shifted 9 = .ok (.istore 4, 2) := by decide +kernel
theorem dX16_shifted_11 : decode cX16_shifted 11 = .ok (.iload 4, 2) := by decide +kernel
theorem dX16_shifted_13 : decode cX16_shifted 13 = .ok (.aload_n 3, 1) := by decide +kernel
theorem dX16_shifted_14 : decode cX16_shifted 14 = .ok (.arraylength, 1) := by decide +kernel
theorem dX16_shifted_15 : decode cX16_shifted 15 = .ok (.if_icmp .ge 60, 3) := by decide +kernel
theorem dX16_shifted_18 : decode cX16_shifted 18 = .ok (.aload_n 3, 1) := by decide +kernel
theorem dX16_shifted_19 : decode cX16_shifted 19 = .ok (.iload 4, 2) := by decide +kernel
theorem dX16_shifted_21 : decode cX16_shifted 21 = .ok (.iaload, 1) := by decide +kernel
theorem dX16_shifted_22 : decode cX16_shifted 22 = .ok (.ifCond .ne 6, 3) := by decide +kernel
theorem dX16_shifted_25 : decode cX16_shifted 25 = .ok (.goto 44, 3) := by decide +kernel
theorem dX16_shifted_28 : decode cX16_shifted 28 = .ok (.aload_n 3, 1) := by decide +kernel
theorem dX16_shifted_29 : decode cX16_shifted 29 = .ok (.iload 4, 2) := by decide +kernel
theorem dX16_shifted_31 : decode cX16_shifted 31 = .ok (.iaload, 1) := by decide +kernel
theorem dX16_shifted_32 : decode cX16_shifted 32 = .ok (.i2l, 1) := by decide +kernel
theorem dX16_shifted_33 : decode cX16_shifted 33 = .ok (.lload_n 1, 1) := by decide +kernel
theorem dX16_shifted_34 : decode cX16_shifted 34 = .ok (.ladd, 1) := by decide +kernel
theorem dX16_shifted_35 : decode cX16_shifted 35 = .ok (.lstore 5, 2) := by decide +kernel
theorem dX16_shifted_37 : decode cX16_shifted 37 = .ok (.aload_n 3, 1) := by decide +kernel
theorem dX16_shifted_38 : decode cX16_shifted 38 = .ok (.iload 4, 2) := by decide +kernel
theorem dX16_shifted_40 : decode cX16_shifted 40 = .ok (.lload 5, 2) := by decide +kernel
theorem dX16_shifted_42 : decode cX16_shifted 42 = .ok (.lconst 1, 1) := by decide +kernel
theorem dX16_shifted_43 : decode cX16_shifted 43 = .ok (.lcmp, 1) := by decide +kernel
theorem dX16_shifted_44 : decode cX16_shifted 44 = .ok (.ifCond .ge 7, 3) := by decide +kernel
theorem dX16_shifted_47 : decode cX16_shifted 47 = .ok (.iconst 1, 1) := by decide +kernel
theorem dX16_shifted_48 : decode cX16_shifted 48 = .ok (.goto 20, 3) := by decide +kernel
theorem dX16_shifted_51 : decode cX16_shifted 51 = .ok (.lload 5, 2) := by decide +kernel
theorem dX16_shifted_53 : decode cX16_shifted 53 = .ok (.ldc2_w 77, 3) := by decide +kernel
theorem dX16_shifted_56 : decode cX16_shifted 56 = .ok (.lcmp, 1) := by decide +kernel
theorem dX16_shifted_57 : decode cX16_shifted 57 = .ok (.ifCond .le 8, 3) := by decide +kernel
theorem dX16_shifted_60 : decode cX16_shifted 60 = .ok (.bipush 40, 2) := by decide +kernel
theorem dX16_shifted_62 : decode cX16_shifted 62 = .ok (.goto 6, 3) := by decide +kernel
theorem dX16_shifted_65 : decode cX16_shifted 65 = .ok (.lload 5, 2) := by decide +kernel
theorem dX16_shifted_67 : decode cX16_shifted 67 = .ok (.l2i, 1) := by decide +kernel
theorem dX16_shifted_68 : decode cX16_shifted 68 = .ok (.iastore, 1) := by decide +kernel
theorem dX16_shifted_69 : decode cX16_shifted 69 = .ok (.iinc 4 1, 3) := by decide +kernel
theorem dX16_shifted_72 : decode cX16_shifted 72 = .ok (.goto (-61), 3) := by decide +kernel
theorem dX16_shifted_75 : decode cX16_shifted 75 = .ok (.aload_n 3, 1) := by decide +kernel
theorem dX16_shifted_76 : decode cX16_shifted 76 = .ok (.areturn, 1) := by decide +kernel
theorem dX16_pass_0 : decode cX16_pass 0 = .ok (.iconst 0, 1) := by decide +kernel
theorem dX16_pass_1 : decode cX16_pass 1 = .ok (.istore_n 1, 1) := by decide +kernel
theorem dX16_pass_2 : decode cX16_pass 2 = .ok (.aload_n 0, 1) := by decide +kernel
theorem dX16_pass_3 : decode cX16_pass 3 = .ok (.getfield 31, 3) := by decide +kernel
theorem dX16_pass_6 : decode cX16_pass 6 = .ok (.astore_n 2, 1) := by decide +kernel
theorem dX16_pass_7 : decode cX16_pass 7 = .ok (.aload_n 2, 1) := by decide +kernel
theorem dX16_pass_8 : decode cX16_pass 8 = .ok (.arraylength, 1) := by decide +kernel
theorem dX16_pass_9 : decode cX16_pass 9 = .ok (.istore_n 3, 1) := by decide +kernel
theorem dX16_pass_10 : decode cX16_pass 10 = .ok (.iconst 0, 1) := by decide +kernel
theorem dX16_pass_11 : decode cX16_pass 11 = .ok (.istore 4, 2) := by decide +kernel
theorem dX16_pass_13 : decode cX16_pass 13 = .ok (.iload 4, 2) := by decide +kernel
theorem dX16_pass_15 : decode cX16_pass 15 = .ok (.iload_n 3, 1) := by decide +kernel
theorem dX16_pass_16 : decode cX16_pass 16 = .ok (.if_icmp .ge 32, 3) := by decide +kernel
theorem dX16_pass_19 : decode cX16_pass 19 = .ok (.aload_n 2, 1) := by decide +kernel
theorem dX16_pass_20 : decode cX16_pass 20 = .ok (.iload 4, 2) := by decide +kernel
theorem dX16_pass_22 : decode cX16_pass 22 = .ok (.aaload, 1) := by decide +kernel
theorem dX16_pass_23 : decode cX16_pass 23 = .ok (.astore 5, 2) := by decide +kernel
theorem dX16_pass_25 : decode cX16_pass 25 = .ok (.iload_n 1, 1) := by decide +kernel
theorem dX16_pass_26 : decode cX16_pass 26 = .ok (.aload 5, 2) := by decide +kernel
theorem dX16_pass_28 : decode cX16_pass 28 = .ok (.aload_n 0, 1) := by decide +kernel
theorem dX16_pass_29 : decode cX16_pass 29 = .ok (.invokevirtual 79, 3) := by decide +kernel
theorem dX16_pass_32 : decode cX16_pass 32 = .ok (.ifCond .eq 7, 3) := by decide +kernel
theorem dX16_pass_35 : decode cX16_pass 35 = .ok (.iconst 1, 1) := by decide +kernel
theorem dX16_pass_36 : decode cX16_pass 36 = .ok (.goto 4, 3) := by decide +kernel
theorem dX16_pass_39 : decode cX16_pass 39 = .ok (.iconst 0, 1) := by decide +kernel
theorem dX16_pass_40 : decode cX16_pass 40 = .ok (.iadd, 1) := by decide +kernel
theorem dX16_pass_41 : decode cX16_pass 41 = .ok (.istore_n 1, 1) := by decide +kernel
theorem dX16_pass_42 : decode cX16_pass 42 = .ok (.iinc 4 1, 3) := by decide +kernel
theorem dX16_pass_45 : decode cX16_pass 45 = .ok (.goto (-32), 3) := by decide +kernel
theorem dX16_pass_48 : decode cX16_pass 48 = .ok (.aload_n 0, 1) := by decide +kernel
theorem dX16_pass_49 : decode cX16_pass 49 = .ok (.dup, 1) := by decide +kernel
theorem dX16_pass_50 : decode cX16_pass 50 = .ok (.getfield 53, 3) := by decide +kernel
theorem dX16_pass_53 : decode cX16_pass 53 = .ok (.iload_n 1, 1) := by decide +kernel
theorem dX16_pass_54 : decode cX16_pass 54 = .ok (.iadd, 1) := by decide +kernel
theorem dX16_pass_55 : decode cX16_pass 55 = .ok (.putfield 53, 3) := by decide +kernel
theorem dX16_pass_58 : decode cX16_pass 58 = .ok (.aload_n 0, 1) := by decide +kernel
theorem dX16_pass_59 : decode cX16_pass 59 = .ok (.dup, 1) := by decide +kernel
theorem dX16_pass_60 : decode cX16_pass 60 = .ok (.getfield 50, 3) := by decide +kernel
theorem dX16_pass_63 : decode cX16_pass 63 = .ok (.iconst 1, 1) := by decide +kernel
theorem dX16_pass_64 : decode cX16_pass 64 = .ok (.iadd, 1) := by decide +kernel
theorem dX16_pass_65 : decode cX16_pass 65 = .ok (.putfield 50, 3) := by decide +kernel
theorem dX16_pass_68 : decode cX16_pass 68 = .ok (.iload_n 1, 1) := by decide +kernel
theorem dX16_pass_69 : decode cX16_pass 69 = .ok (.ireturn, 1) := by decide +kernel
theorem dX16_pass__0 : decode cX16_pass_ 0 = .ok (.iconst 0, 1) := by decide +kernel
theorem dX16_pass__1 : decode cX16_pass_ 1 = .ok (.istore_n 2, 1) := by decide +kernel
theorem dX16_pass__2 : decode cX16_pass_ 2 = .ok (.iconst 0, 1) := by decide +kernel
theorem dX16_pass__3 : decode cX16_pass_ 3 = .ok (.istore_n 3, 1) := by decide +kernel
theorem dX16_pass__4 : decode cX16_pass_ 4 = .ok (.iload_n 3, 1) := by decide +kernel
theorem dX16_pass__5 : decode cX16_pass_ 5 = .ok (.iload_n 1, 1) := by decide +kernel
theorem dX16_pass__6 : decode cX16_pass_ 6 = .ok (.if_icmp .ge 16, 3) := by decide +kernel
theorem dX16_pass__9 : decode cX16_pass_ 9 = .ok (.iload_n 2, 1) := by decide +kernel
theorem dX16_pass__10 : decode cX16_pass_ 10 = .ok (.aload_n 0, 1) := by decide +kernel
theorem dX16_pass__11 : decode cX16_pass_ 11 = .ok (.invokevirtual 83, 3) := by decide +kernel
theorem dX16_pass__14 : decode cX16_pass_ 14 = .ok (.iadd, 1) := by decide +kernel
theorem dX16_pass__15 : decode cX16_pass_ 15 = .ok (.istore_n 2, 1) := by decide +kernel
theorem dX16_pass__16 : decode cX16_pass_ 16 = .ok (.iinc 3 1, 3) := by decide +kernel
theorem dX16_pass__19 : decode cX16_pass_ 19 = .ok (.goto (-15), 3) := by decide +kernel
theorem dX16_pass__22 : decode cX16_pass_ 22 = .ok (.iload_n 2, 1) := by decide +kernel
theorem dX16_pass__23 : decode cX16_pass_ 23 = .ok (.ireturn, 1) := by decide +kernel
theorem dX16_isSame_0 : decode cX16_isSame 0 = .ok (.iconst 0, 1) := by decide +kernel
theorem dX16_isSame_1 : decode cX16_isSame 1 = .ok (.istore_n 2, 1) := by decide +kernel
theorem dX16_isSame_2 : decode cX16_isSame 2 = .ok (.iconst 0, 1) := by decide +kernel
theorem dX16_isSame_3 : decode cX16_isSame 3 = .ok (.istore_n 3, 1) := by decide +kernel
theorem dX16_isSame_4 : decode cX16_isSame 4 = .ok (.iload_n 3, 1) := by decide +kernel
theorem dX16_isSame_5 : decode cX16_isSame 5 = .ok (.aload_n 0, 1) := by decide +kernel
theorem dX16_isSame_6 : decode cX16_isSame 6 = .ok (.getfield 18, 3) := by decide +kernel
theorem dX16_isSame_9 : decode cX16_isSame 9 = .ok (.arraylength, 1) := by decide +kernel
theorem dX16_isSame_10 : decode cX16_isSame 10 = .ok (.if_icmp .ge 134, 3) := by decide +kernel
theorem dX16_isSame_13 : decode cX16_isSame 13 = .ok (.aload_n 0, 1) := by decide +kernel
theorem dX16_isSame_14 : decode cX16_isSame 14 = .ok (.getfield 18, 3) := by decide +kernel
theorem dX16_isSame_17 : decode cX16_isSame 17 = .ok (.iload_n 3, 1) := by decide +kernel
theorem dX16_isSame_18 : decode cX16_isSame 18 = .ok (.aaload, 1) := by decide +kernel
theorem dX16_isSame_19 : decode cX16_isSame 19 = .ok (.astore 4, 2) := by decide +kernel
theorem dX16_isSame_21 : decode cX16_isSame 21 = .ok (.iconst 0, 1) := by decide +kernel
theorem dX16_isSame_22 : decode cX16_isSame 22 = .ok (.istore 5, 2) := by decide +kernel
theorem dX16_isSame_24 : decode cX16_isSame 24 = .ok (.iload_n 2, 1) := by decide +kernel
theorem dX16_isSame_25 : decode cX16_isSame 25 = .ok (.aload 4, 2) := by decide +kernel
theorem dX16_isSame_27 : decode cX16_isSame 27 = .ok (.arraylength, 1) := by decide +kernel
theorem dX16_isSame_28 : decode cX16_isSame 28 = .ok (.iadd, 1) := by decide +kernel
theorem dX16_isSame_29 : decode cX16_isSame 29 = .ok (.istore_n 2, 1) := by decide +kernel
theorem dX16_isSame_30 : decode cX16_isSame 30 = .ok (.aload_n 1, 1) := by decide +kernel
theorem dX16_isSame_31 : decode cX16_isSame 31 = .ok (.iload_n 3, 1) := by decide +kernel
theorem dX16_isSame_32 : decode cX16_isSame 32 = .ok (.invokevirtual 87, 3) := by decide +kernel
theorem dX16_isSame_35 : decode cX16_isSame 35 = .ok (.aload 4, 2) := by decide +kernel
theorem dX16_isSame_37 : decode cX16_isSame 37 = .ok (.arraylength, 1) := by decide +kernel
theorem dX16_isSame_38 : decode cX16_isSame 38 = .ok (.if_icmp .ne 17, 3) := by decide +kernel
theorem dX16_isSame_41 : decode cX16_isSame 41 = .ok (.aload_n 1, 1) := by decide +kernel
theorem dX16_isSame_42 : decode cX16_isSame 42 = .ok (.iload_n 3, 1) := by decide +kernel
theorem dX16_isSame_43 : decode cX16_isSame 43 = .ok (.invokevirtual 93, 3) := by decide +kernel
theorem dX16_isSame_46 : decode cX16_isSame 46 = .ok (.aload_n 0, 1) := by decide +kernel
theorem dX16_isSame_47 : decode cX16_isSame 47 = .ok (.getfield 22, 3) := by decide +kernel
theorem dX16_isSame_50 : decode cX16_isSame 50 = .ok (.iload_n 3, 1) := by decide +kernel
theorem dX16_isSame_51 : decode cX16_isSame 51 = .ok (.baload, 1) := by decide +kernel
theorem dX16_isSame_52 : decode cX16_isSame 52 = .ok (.if_icmp .eq 5, 3) := by decide +kernel
theorem dX16_isSame_55 : decode cX16_isSame 55 = .ok (.iconst 0, 1) := by decide +kernel
theorem dX16_isSame_56 : decode cX16_isSame 56 = .ok (.ireturn, 1) := by decide +kernel
theorem dX16_isSame_57 : decode cX16_isSame 57 = .ok (.iconst 0, 1) := by decide +kernel
theorem dX16_isSame_58 : decode cX16_isSame 58 = .ok (.istore 6, 2) := by decide +kernel
theorem dX16_isSame_60 : decode cX16_isSame 60 = .ok (.iload 6, 2) := by decide +kernel
theorem dX16_isSame_62 : decode cX16_isSame 62 = .ok (.aload 4, 2) := by decide +kernel
theorem dX16_isSame_64 : decode cX16_isSame 64 = .ok (.arraylength, 1) := by decide +kernel
theorem dX16_isSame_65 : decode cX16_isSame 65 = .ok (.if_icmp .ge 61, 3) := by decide +kernel
theorem dX16_isSame_68 : decode cX16_isSame 68 = .ok (.iload 5, 2) := by decide +kernel
theorem dX16_isSame_70 : decode cX16_isSame 70 = .ok (.aload 4, 2) := by decide +kernel
theorem dX16_isSame_72 : decode cX16_isSame 72 = .ok (.iload 6, 2) := by decide +kernel
theorem dX16_isSame_74 : decode cX16_isSame 74 = .ok (.iaload, 1) := by decide +kernel
theorem dX16_isSame_75 : decode cX16_isSame 75 = .ok (.ifCond .ne 7, 3) := by decide +kernel
theorem dX16_isSame_78 : decode cX16_isSame 78 = .ok (.iconst 1, 1) := by decide +kernel
theorem dX16_isSame_79 : decode cX16_isSame 79 = .ok (.goto 4, 3) := by decide +kernel
theorem dX16_isSame_82 : decode cX16_isSame 82 = .ok (.iconst 0, 1) := by decide +kernel
theorem dX16_isSame_83 : decode cX16_isSame 83 = .ok (.iadd, 1) := by decide +kernel
theorem dX16_isSame_84 : decode cX16_isSame 84 = .ok (.istore 5, 2) := by decide +kernel
theorem dX16_isSame_86 : decode cX16_isSame 86 = .ok (.aload_n 1, 1) := by decide +kernel
theorem dX16_isSame_87 : decode cX16_isSame 87 = .ok (.iload_n 3, 1) := by decide +kernel
theorem dX16_isSame_88 : decode cX16_isSame 88 = .ok (.iload 6, 2) := by decide +kernel
theorem dX16_isSame_90 : decode cX16_isSame 90 = .ok (.invokevirtual 97, 3) := by decide +kernel
theorem dX16_isSame_93 : decode cX16_isSame 93 = .ok (.aload 4, 2) := by decide +kernel
theorem dX16_isSame_95 : decode cX16_isSame 95 = .ok (.iload 6, 2) := by decide +kernel
theorem dX16_isSame_97 : decode cX16_isSame 97 = .ok (.iaload, 1) := by decide +kernel
theorem dX16_isSame_98 : decode cX16_isSame 98 = .ok (.if_icmp .ne 20, 3) := by decide +kernel
theorem dX16_isSame_101 : decode cX16_isSame 101 = .ok (.aload_n 1, 1) := by decide +kernel
theorem dX16_isSame_102 : decode cX16_isSame 102 = .ok (.iload_n 3, 1) := by decide +kernel
theorem dX16_isSame_103 : decode cX16_isSame 103 = .ok (.iload 6, 2) := by decide +kernel
theorem dX16_isSame_105 : decode cX16_isSame 105 = .ok (.invokevirtual 100, 3) := by decide +kernel
theorem dX16_isSame_108 : decode cX16_isSame 108 = .ok (.aload 4, 2) := by decide +kernel
theorem dX16_isSame_110 : decode cX16_isSame 110 = .ok (.iload 6, 2) := by decide +kernel
theorem dX16_isSame_112 : decode cX16_isSame 112 = .ok (.invokestatic 57, 3) := by decide +kernel
theorem dX16_isSame_115 : decode cX16_isSame 115 = .ok (.if_icmp .eq 5, 3) := by decide +kernel
theorem dX16_isSame_118 : decode cX16_isSame 118 = .ok (.iconst 0, 1) := by decide +kernel
theorem dX16_isSame_119 : decode cX16_isSame 119 = .ok (.ireturn, 1) := by decide +kernel
theorem dX16_isSame_120 : decode cX16_isSame 120 = .ok (.iinc 6 1, 3) := by decide +kernel
theorem dX16_isSame_123 : decode cX16_isSame 123 = .ok (.goto (-63), 3) := by decide +kernel
theorem dX16_isSame_126 : decode cX16_isSame 126 = .ok (.aload_n 1, 1) := by decide +kernel
theorem dX16_isSame_127 : decode cX16_isSame 127 = .ok (.iload_n 3, 1) := by decide +kernel
theorem dX16_isSame_128 : decode cX16_isSame 128 = .ok (.invokevirtual 103, 3) := by decide +kernel
theorem dX16_isSame_131 : decode cX16_isSame 131 = .ok (.iload 5, 2) := by decide +kernel
theorem dX16_isSame_133 : decode cX16_isSame 133 = .ok (.if_icmp .eq 5, 3) := by decide +kernel
theorem dX16_isSame_136 : decode cX16_isSame 136 = .ok (.iconst 0, 1) := by decide +kernel
theorem dX16_isSame_137 : decode cX16_isSame 137 = .ok (.ireturn, 1) := by decide +kernel
theorem dX16_isSame_138 : decode cX16_isSame 138 = .ok (.iinc 3 1, 3) := by decide +kernel
theorem dX16_isSame_141 : decode cX16_isSame 141 = .ok (.goto (-137), 3) := by decide +kernel
theorem dX16_isSame_144 : decode cX16_isSame 144 = .ok (.iconst 0, 1) := by decide +kernel
theorem dX16_isSame_145 : decode cX16_isSame 145 = .ok (.istore_n 3, 1) := by decide +kernel
theorem dX16_isSame_146 : decode cX16_isSame 146 = .ok (.iload_n 3, 1) := by decide +kernel
theorem dX16_isSame_147 : decode cX16_isSame 147 = .ok (.aload_n 0, 1) := by decide +kernel
theorem dX16_isSame_148 : decode cX16_isSame 148 = .ok (.getfield 26, 3) := by decide +kernel
theorem dX16_isSame_151 : decode cX16_isSame 151 = .ok (.arraylength, 1) := by decide +kernel
theorem dX16_isSame_152 : decode cX16_isSame 152 = .ok (.if_icmp .ge 25, 3) := by decide +kernel
theorem dX16_isSame_155 : decode cX16_isSame 155 = .ok (.aload_n 1, 1) := by decide +kernel
theorem dX16_isSame_156 : decode cX16_isSame 156 = .ok (.iload_n 3, 1) := by decide +kernel
theorem dX16_isSame_157 : decode cX16_isSame 157 = .ok (.invokevirtual 106, 3) := by decide +kernel
theorem dX16_isSame_160 : decode cX16_isSame 160 = .ok (.aload_n 0, 1) := by decide +kernel
theorem dX16_isSame_161 : decode cX16_isSame 161 = .ok (.getfield 26, 3) := by decide +kernel
theorem dX16_isSame_164 : decode cX16_isSame 164 = .ok (.iload_n 3, 1) := by decide +kernel
theorem dX16_isSame_165 : decode cX16_isSame 165 = .ok (.iaload, 1) := by decide +kernel
theorem dX16_isSame_166 : decode cX16_isSame 166 = .ok (.if_icmp .eq 5, 3) := by decide +kernel
theorem dX16_isSame_169 : decode cX16_isSame 169 = .ok (.iconst 0, 1) := by decide +kernel
theorem dX16_isSame_170 : decode cX16_isSame 170 = .ok (.ireturn, 1) := by decide +kernel
theorem dX16_isSame_171 : decode cX16_isSame 171 = .ok (.iinc 3 1, 3) := by decide +kernel
theorem dX16_isSame_174 : decode cX16_isSame 174 = .ok (.goto (-28), 3) := by decide +kernel
theorem dX16_isSame_177 : decode cX16_isSame 177 = .ok (.aload_n 1, 1) := by decide +kernel
theorem dX16_isSame_178 : decode cX16_isSame 178 = .ok (.invokevirtual 109, 3) := by decide +kernel
theorem dX16_isSame_181 : decode cX16_isSame 181 = .ok (.aload_n 0, 1) := by decide +kernel
theorem dX16_isSame_182 : decode cX16_isSame 182 = .ok (.getfield 18, 3) := by decide +kernel
theorem dX16_isSame_185 : decode cX16_isSame 185 = .ok (.arraylength, 1) := by decide +kernel
theorem dX16_isSame_186 : decode cX16_isSame 186 = .ok (.if_icmp .ne 93, 3) := by decide +kernel
theorem dX16_isSame_189 : decode cX16_isSame 189 = .ok (.aload_n 1, 1) := by decide +kernel
theorem dX16_isSame_190 : decode cX16_isSame 190 = .ok (.invokevirtual 111, 3) := by decide +kernel
theorem dX16_isSame_193 : decode cX16_isSame 193 = .ok (.aload_n 0, 1) := by decide +kernel
theorem dX16_isSame_194 : decode cX16_isSame 194 = .ok (.invokevirtual 114, 3) := by decide +kernel
theorem dX16_isSame_197 : decode cX16_isSame 197 = .ok (.if_icmp .ne 82, 3) := by decide +kernel
theorem dX16_isSame_200 : decode cX16_isSame 200 = .ok (.aload_n 1, 1) := by decide +kernel
theorem dX16_isSame_201 : decode cX16_isSame 201 = .ok (.invokevirtual 117, 3) := by decide +kernel
theorem dX16_isSame_204 : decode cX16_isSame 204 = .ok (.aload_n 0, 1) := by decide +kernel
theorem dX16_isSame_205 : decode cX16_isSame 205 = .ok (.getfield 31, 3) := by decide +kernel
theorem dX16_isSame_208 : decode cX16_isSame 208 = .ok (.arraylength, 1) := by decide +kernel
theorem dX16_isSame_209 : decode cX16_isSame 209 = .ok (.if_icmp .ne 70, 3) := by decide +kernel
theorem dX16_isSame_212 : decode cX16_isSame 212 = .ok (.aload_n 1, 1) := by decide +kernel
theorem dX16_isSame_213 : decode cX16_isSame 213 = .ok (.invokevirtual 119, 3) := by decide +kernel
theorem dX16_isSame_216 : decode cX16_isSame 216 = .ok (.aload_n 0, 1) := by decide +kernel
theorem dX16_isSame_217 : decode cX16_isSame 217 = .ok (.getfield 50, 3) := by decide +kernel
theorem dX16_isSame_220 : decode cX16_isSame 220 = .ok (.if_icmp .ne 59, 3) := by decide +kernel
theorem dX16_isSame_223 : decode cX16_isSame 223 = .ok (.aload_n 1, 1) := by decide +kernel
theorem dX16_isSame_224 : decode cX16_isSame 224 = .ok (.invokevirtual 121, 3) := by decide +kernel
theorem dX16_isSame_227 : decode cX16_isSame 227 = .ok (.aload_n 0, 1) := by decide +kernel
theorem dX16_isSame_228 : decode cX16_isSame 228 = .ok (.getfield 53, 3) := by decide +kernel
theorem dX16_isSame_231 : decode cX16_isSame 231 = .ok (.if_icmp .ne 48, 3) := by decide +kernel
theorem dX16_isSame_234 : decode cX16_isSame 234 = .ok (.aload_n 1, 1) := by decide +kernel
theorem dX16_isSame_235 : decode cX16_isSame 235 = .ok (.invokevirtual 124, 3) := by decide +kernel
theorem dX16_isSame_238 : decode cX16_isSame 238 = .ok (.aload_n 0, 1) := by decide +kernel
theorem dX16_isSame_239 : decode cX16_isSame 239 = .ok (.getfield 26, 3) := by decide +kernel
theorem dX16_isSame_242 : decode cX16_isSame 242 = .ok (.arraylength, 1) := by decide +kernel
theorem dX16_isSame_243 : decode cX16_isSame 243 = .ok (.if_icmp .ne 36, 3) := by decide +kernel
theorem dX16_isSame_246 : decode cX16_isSame 246 = .ok (.aload_n 1, 1) := by decide +kernel
theorem dX16_isSame_247 : decode cX16_isSame 247 = .ok (.invokevirtual 127, 3) := by decide +kernel
theorem dX16_isSame_250 : decode cX16_isSame 250 = .ok (.aload_n 0, 1) := by decide +kernel
theorem dX16_isSame_251 : decode cX16_isSame 251 = .ok (.getfield 18, 3) := by decide +kernel
theorem dX16_isSame_254 : decode cX16_isSame 254 = .ok (.arraylength, 1) := by decide +kernel
theorem dX16_isSame_255 : decode cX16_isSame 255 = .ok (.ifCond .ne 7, 3) := by decide +kernel
theorem dX16_isSame_258 : decode cX16_isSame 258 = .ok (.dconst 0, 1) := by decide +kernel
theorem dX16_isSame_259 : decode cX16_isSame 259 = .ok (.goto 12, 3) := by decide +kernel
theorem dX16_isSame_262 : decode cX16_isSame 262 = .ok (.iload_n 2, 1) := by decide +kernel
theorem dX16_isSame_263 : decode cX16_isSame 263 = .ok (.i2d, 1) := by decide +kernel
theorem dX16_isSame_264 : decode cX16_isSame 264 = .ok (.aload_n 0, 1) := by decide +kernel
theorem dX16_isSame_265 : decode cX16_isSame 265 = .ok (.getfield 18, 3) := by decide +kernel
theorem dX16_isSame_268 : decode cX16_isSame 268 = .ok (.arraylength, 1) := by decide +kernel
theorem dX16_isSame_269 : decode cX16_isSame 269 = .ok (.i2d, 1) := by decide +kernel
theorem dX16_isSame_270 : decode cX16_isSame 270 = .ok (.ddiv, 1) := by decide +kernel
theorem dX16_isSame_271 : decode cX16_isSame 271 = .ok (.dcmp .l, 1) := by decide +kernel
theorem dX16_isSame_272 : decode cX16_isSame 272 = .ok (.ifCond .ne 7, 3) := by decide +kernel
theorem dX16_isSame_275 : decode cX16_isSame 275 = .ok (.iconst 1, 1) := by decide +kernel
theorem dX16_isSame_276 : decode cX16_isSame 276 = .ok (.goto 4, 3) := by decide +kernel
theorem dX16_isSame_279 : decode cX16_isSame 279 = .ok (.iconst 0, 1) := by decide +kernel
theorem dX16_isSame_280 : decode cX16_isSame 280 = .ok (.ireturn, 1) := by decide +kernel
theorem dL_below_0 : decode cL_below 0 = .ok (.iload_n 0, 1) := by decide +kernel
theorem dL_below_1 : decode cL_below 1 = .ok (.ldc 7, 2) := by decide +kernel
theorem dL_below_3 : decode cL_below 3 = .ok (.iand, 1) := by decide +kernel
theorem dL_below_4 : decode cL_below 4 = .ok (.iload_n 1, 1) := by decide +kernel
theorem dL_below_5 : decode cL_below 5 = .ok (.irem, 1) := by decide +kernel
theorem dL_below_6 : decode cL_below 6 = .ok (.ireturn, 1) := by decide +kernel
theorem dL_cell_0 : decode cL_cell 0 = .ok (.iload_n 1, 1) := by decide +kernel
theorem dL_cell_1 : decode cL_cell 1 = .ok (.aload_n 0, 1) := by decide +kernel
theorem dL_cell_2 : decode cL_cell 2 = .ok (.arraylength, 1) := by decide +kernel
theorem dL_cell_3 : decode cL_cell 3 = .ok (.if_icmp .ge 9, 3) := by decide +kernel
theorem dL_cell_6 : decode cL_cell 6 = .ok (.aload_n 0, 1) := by decide +kernel
theorem dL_cell_7 : decode cL_cell 7 = .ok (.iload_n 1, 1) := by decide +kernel
theorem dL_cell_8 : decode cL_cell 8 = .ok (.iaload, 1) := by decide +kernel
theorem dL_cell_9 : decode cL_cell 9 = .ok (.goto 9, 3) := by decide +kernel
theorem dL_cell_12 : decode cL_cell 12 = .ok (.ldc 8, 2) := by decide +kernel
theorem dL_cell_14 : decode cL_cell 14 = .ok (.iload_n 1, 1) := by decide +kernel
theorem dL_cell_15 : decode cL_cell 15 = .ok (.iconst 3, 1) := by decide +kernel
theorem dL_cell_16 : decode cL_cell 16 = .ok (.iadd, 1) := by decide +kernel
theorem dL_cell_17 : decode cL_cell 17 = .ok (.imul, 1) := by decide +kernel
theorem dL_cell_18 : decode cL_cell 18 = .ok (.ireturn, 1) := by decide +kernel
theorem dL_taught_0 : decode cL_taught 0 = .ok (.iconst 5, 1) := by decide +kernel
theorem dL_taught_1 : decode cL_taught 1 = .ok (.newarray .int, 2) := by decide +kernel
theorem dL_taught_3 : decode cL_taught 3 = .ok (.astore_n 2, 1) := by decide +kernel
theorem dL_taught_4 : decode cL_taught 4 = .ok (.iconst 0, 1) := by decide +kernel
theorem dL_taught_5 : decode cL_taught 5 = .ok (.istore_n 3, 1) := by decide +kernel
theorem dL_taught_6 : decode cL_taught 6 = .ok (.iload_n 3, 1) := by decide +kernel
theorem dL_taught_7 : decode cL_taught 7 = .ok (.aload_n 1, 1) := by decide +kernel
theorem dL_taught_8 : decode cL_taught 8 = .ok (.invokevirtual 9, 3) := by decide +kernel
theorem dL_taught_11 : decode cL_taught 11 = .ok (.if_icmp .ge 108, 3) := by decide +kernel
theorem dL_taught_14 : decode cL_taught 14 = .ok (.iconst 0, 1) := by decide +kernel
theorem dL_taught_15 : decode cL_taught 15 = .ok (.istore 4, 2) := by decide +kernel
theorem dL_taught_17 : decode cL_taught 17 = .ok (.iload 4, 2) := by decide +kernel
theorem dL_taught_19 : decode cL_taught 19 = .ok (.iconst 5, 1) := by decide +kernel
theorem dL_taught_20 : decode cL_taught 20 = .ok (.if_icmp .ge 73, 3) := by decide +kernel
theorem dL_taught_23 : decode cL_taught 23 = .ok (.aload_n 2, 1) := by decide +kernel
theorem dL_taught_24 : decode cL_taught 24 = .ok (.iload 4, 2) := by decide +kernel
theorem dL_taught_26 : decode cL_taught 26 = .ok (.iconst 0, 1) := by decide +kernel
theorem dL_taught_27 : decode cL_taught 27 = .ok (.iastore, 1) := by decide +kernel
theorem dL_taught_28 : decode cL_taught 28 = .ok (.iload_n 3, 1) := by decide +kernel
theorem dL_taught_29 : decode cL_taught 29 = .ok (.iconst 4, 1) := by decide +kernel
theorem dL_taught_30 : decode cL_taught 30 = .ok (.iload 4, 2) := by decide +kernel
theorem dL_taught_32 : decode cL_taught 32 = .ok (.imul, 1) := by decide +kernel
theorem dL_taught_33 : decode cL_taught 33 = .ok (.iadd, 1) := by decide +kernel
theorem dL_taught_34 : decode cL_taught 34 = .ok (.istore 5, 2) := by decide +kernel
theorem dL_taught_36 : decode cL_taught 36 = .ok (.iload 5, 2) := by decide +kernel
theorem dL_taught_38 : decode cL_taught 38 = .ok (.iload_n 3, 1) := by decide +kernel
theorem dL_taught_39 : decode cL_taught 39 = .ok (.iconst 4, 1) := by decide +kernel
theorem dL_taught_40 : decode cL_taught 40 = .ok (.iload 4, 2) := by decide +kernel
theorem dL_taught_42 : decode cL_taught 42 = .ok (.imul, 1) := by decide +kernel
theorem dL_taught_43 : decode cL_taught 43 = .ok (.iadd, 1) := by decide +kernel
theorem dL_taught_44 : decode cL_taught 44 = .ok (.iconst 4, 1) := by decide +kernel
theorem dL_taught_45 : decode cL_taught 45 = .ok (.iadd, 1) := by decide +kernel
theorem dL_taught_46 : decode cL_taught 46 = .ok (.if_icmp .ge 41, 3) := by decide +kernel
theorem dL_taught_49 : decode cL_taught 49 = .ok (.aload_n 2, 1) := by decide +kernel
theorem dL_taught_50 : decode cL_taught 50 = .ok (.iload 4, 2) := by decide +kernel
theorem dL_taught_52 : decode cL_taught 52 = .ok (.aload_n 2, 1) := by decide +kernel
theorem dL_taught_53 : decode cL_taught 53 = .ok (.iload 4, 2) := by decide +kernel
theorem dL_taught_55 : decode cL_taught 55 = .ok (.iaload, 1) := by decide +kernel
theorem dL_taught_56 : decode cL_taught 56 = .ok (.bipush 8, 2) := by decide +kernel
theorem dL_taught_58 : decode cL_taught 58 = .ok (.ishl, 1) := by decide +kernel
theorem dL_taught_59 : decode cL_taught 59 = .ok (.iload 5, 2) := by decide +kernel
theorem dL_taught_61 : decode cL_taught 61 = .ok (.aload_n 1, 1) := by decide +kernel
theorem dL_taught_62 : decode cL_taught 62 = .ok (.invokevirtual 9, 3) := by decide +kernel
theorem dL_taught_65 : decode cL_taught 65 = .ok (.if_icmp .ge 12, 3) := by decide +kernel
theorem dL_taught_68 : decode cL_taught 68 = .ok (.aload_n 1, 1) := by decide +kernel
theorem dL_taught_69 : decode cL_taught 69 = .ok (.iload 5, 2) := by decide +kernel
theorem dL_taught_71 : decode cL_taught 71 = .ok (.invokevirtual 15, 3) := by decide +kernel
theorem dL_taught_74 : decode cL_taught 74 = .ok (.goto 5, 3) := by decide +kernel
theorem dL_taught_77 : decode cL_taught 77 = .ok (.bipush 32, 2) := by decide +kernel
theorem dL_taught_79 : decode cL_taught 79 = .ok (.ior, 1) := by decide +kernel
theorem dL_taught_80 : decode cL_taught 80 = .ok (.iastore, 1) := by decide +kernel
theorem dL_taught_81 : decode cL_taught 81 = .ok (.iinc 5 1, 3) := by decide +kernel
theorem dL_taught_84 : decode cL_taught 84 = .ok (.goto (-48), 3) := by decide +kernel
theorem dL_taught_87 : decode cL_taught 87 = .ok (.iinc 4 1, 3) := by decide +kernel
theorem dL_taught_90 : decode cL_taught 90 = .ok (.goto (-73), 3) := by decide +kernel
theorem dL_taught_93 : decode cL_taught 93 = .ok (.aload_n 0, 1) := by decide +kernel
theorem dL_taught_94 : decode cL_taught 94 = .ok (.aload_n 2, 1) := by decide +kernel
theorem dL_taught_95 : decode cL_taught 95 = .ok (.iconst 0, 1) := by decide +kernel
theorem dL_taught_96 : decode cL_taught 96 = .ok (.iaload, 1) := by decide +kernel
theorem dL_taught_97 : decode cL_taught 97 = .ok (.aload_n 2, 1) := by decide +kernel
theorem dL_taught_98 : decode cL_taught 98 = .ok (.iconst 1, 1) := by decide +kernel
theorem dL_taught_99 : decode cL_taught 99 = .ok (.iaload, 1) := by decide +kernel
theorem dL_taught_100 : decode cL_taught 100 = .ok (.aload_n 2, 1) := by decide +kernel
theorem dL_taught_101 : decode cL_taught 101 = .ok (.iconst 2, 1) := by decide +kernel
theorem dL_taught_102 : decode cL_taught 102 = .ok (.iaload, 1) := by decide +kernel
theorem dL_taught_103 : decode cL_taught 103 = .ok (.aload_n 2, 1) := by decide +kernel
theorem dL_taught_104 : decode cL_taught 104 = .ok (.iconst 3, 1) := by decide +kernel
theorem dL_taught_105 : decode cL_taught 105 = .ok (.iaload, 1) := by decide +kernel
theorem dL_taught_106 : decode cL_taught 106 = .ok (.aload_n 2, 1) := by decide +kernel
theorem dL_taught_107 : decode cL_taught 107 = .ok (.iconst 4, 1) := by decide +kernel
theorem dL_taught_108 : decode cL_taught 108 = .ok (.iaload, 1) := by decide +kernel
theorem dL_taught_109 : decode cL_taught 109 = .ok (.invokevirtual 19, 3) := by decide +kernel
theorem dL_taught_112 : decode cL_taught 112 = .ok (.pop, 1) := by decide +kernel
theorem dL_taught_113 : decode cL_taught 113 = .ok (.iinc 3 20, 3) := by decide +kernel
theorem dL_taught_116 : decode cL_taught 116 = .ok (.goto (-110), 3) := by decide +kernel
theorem dL_taught_119 : decode cL_taught 119 = .ok (.aload_n 0, 1) := by decide +kernel
theorem dL_taught_120 : decode cL_taught 120 = .ok (.aload_n 1, 1) := by decide +kernel
theorem dL_taught_121 : decode cL_taught 121 = .ok (.invokevirtual 9, 3) := by decide +kernel
theorem dL_taught_124 : decode cL_taught 124 = .ok (.invokevirtual 25, 3) := by decide +kernel
theorem dL_taught_127 : decode cL_taught 127 = .ok (.pop, 1) := by decide +kernel
theorem dL_taught_128 : decode cL_taught 128 = .ok (.aload_n 0, 1) := by decide +kernel
theorem dL_taught_129 : decode cL_taught 129 = .ok (.invokevirtual 29, 3) := by decide +kernel
theorem dL_taught_132 : decode cL_taught 132 = .ok (.ireturn, 1) := by decide +kernel
theorem dL_drawn_0 : decode cL_drawn 0 = .ok (.new 32, 3) := by decide +kernel
theorem dL_drawn_3 : decode cL_drawn 3 = .ok (.dup, 1) := by decide +kernel
theorem dL_drawn_4 : decode cL_drawn 4 = .ok (.sipush 576, 3) := by decide +kernel
theorem dL_drawn_7 : decode cL_drawn 7 = .ok (.newarray .int, 2) := by decide +kernel
theorem dL_drawn_9 : decode cL_drawn 9 = .ok (.sipush 576, 3) := by decide +kernel
theorem dL_drawn_12 : decode cL_drawn 12 = .ok (.newarray .int, 2) := by decide +kernel
theorem dL_drawn_14 : decode cL_drawn 14 = .ok (.invokespecial 34, 3) := by decide +kernel
theorem dL_drawn_17 : decode cL_drawn 17 = .ok (.astore 4, 2) := by decide +kernel
theorem dL_drawn_19 : decode cL_drawn 19 = .ok (.iload_n 2, 1) := by decide +kernel
theorem dL_drawn_20 : decode cL_drawn 20 = .ok (.aload_n 0, 1) := by decide +kernel
theorem dL_drawn_21 : decode cL_drawn 21 = .ok (.bipush 9, 2) := by decide +kernel
theorem dL_drawn_23 : decode cL_drawn 23 = .ok (.iload_n 2, 1) := by decide +kernel
theorem dL_drawn_24 : decode cL_drawn 24 = .ok (.isub, 1) := by decide +kernel
theorem dL_drawn_25 : decode cL_drawn 25 = .ok (.invokevirtual 37, 3) := by decide +kernel
theorem dL_drawn_28 : decode cL_drawn 28 = .ok (.iadd, 1) := by decide +kernel
theorem dL_drawn_29 : decode cL_drawn 29 = .ok (.istore 5, 2) := by decide +kernel
theorem dL_drawn_31 : decode cL_drawn 31 = .ok (.aload 4, 2) := by decide +kernel
theorem dL_drawn_33 : decode cL_drawn 33 = .ok (.iload 5, 2) := by decide +kernel
theorem dL_drawn_35 : decode cL_drawn 35 = .ok (.anewarray 42, 3) := by decide +kernel
theorem dL_drawn_38 : decode cL_drawn 38 = .ok (.putfield 44, 3) := by decide +kernel
theorem dL_drawn_41 : decode cL_drawn 41 = .ok (.aload 4, 2) := by decide +kernel
theorem dL_drawn_43 : decode cL_drawn 43 = .ok (.iload 5, 2) := by decide +kernel
theorem dL_drawn_45 : decode cL_drawn 45 = .ok (.newarray .boolean, 2) := by decide +kernel
theorem dL_drawn_47 : decode cL_drawn 47 = .ok (.putfield 48, 3) := by decide +kernel
theorem dL_drawn_50 : decode cL_drawn 50 = .ok (.iconst 0, 1) := by decide +kernel
theorem dL_drawn_51 : decode cL_drawn 51 = .ok (.istore 6, 2) := by decide +kernel
theorem dL_drawn_53 : decode cL_drawn 53 = .ok (.iload 6, 2) := by decide +kernel
theorem dL_drawn_55 : decode cL_drawn 55 = .ok (.iload 5, 2) := by decide +kernel
theorem dL_drawn_57 : decode cL_drawn 57 = .ok (.if_icmp .ge 327, 3) := by decide +kernel
theorem dL_drawn_60 : decode cL_drawn 60 = .ok (.bipush 24, 2) := by decide +kernel
theorem dL_drawn_62 : decode cL_drawn 62 = .ok (.newarray .int, 2) := by decide +kernel
theorem dL_drawn_64 : decode cL_drawn 64 = .ok (.astore 7, 2) := by decide +kernel
theorem dL_drawn_66 : decode cL_drawn 66 = .ok (.iconst 0, 1) := by decide +kernel
theorem dL_drawn_67 : decode cL_drawn 67 = .ok (.istore 8, 2) := by decide +kernel
theorem dL_drawn_69 : decode cL_drawn 69 = .ok (.iconst 1, 1) := by decide +kernel
theorem dL_drawn_70 : decode cL_drawn 70 = .ok (.aload_n 0, 1) := by decide +kernel
theorem dL_drawn_71 : decode cL_drawn 71 = .ok (.iconst 3, 1) := by decide +kernel
theorem dL_drawn_72 : decode cL_drawn 72 = .ok (.invokevirtual 37, 3) := by decide +kernel
theorem dL_drawn_75 : decode cL_drawn 75 = .ok (.iadd, 1) := by decide +kernel
theorem dL_drawn_76 : decode cL_drawn 76 = .ok (.istore 9, 2) := by decide +kernel
theorem dL_drawn_78 : decode cL_drawn 78 = .ok (.aload_n 1, 1) := by decide +kernel
theorem dL_drawn_79 : decode cL_drawn 79 = .ok (.ldc 52, 2) := by decide +kernel
theorem dL_drawn_81 : decode cL_drawn 81 = .ok (.invokevirtual 54, 3) := by decide +kernel
theorem dL_drawn_84 : decode cL_drawn 84 = .ok (.iload 6, 2) := by decide +kernel
theorem dL_drawn_86 : decode cL_drawn 86 = .ok (.invokevirtual 60, 3) := by decide +kernel
theorem dL_drawn_89 : decode cL_drawn 89 = .ok (.ldc 63, 2) := by decide +kernel
theorem dL_drawn_91 : decode cL_drawn 91 = .ok (.invokevirtual 54, 3) := by decide +kernel
theorem dL_drawn_94 : decode cL_drawn 94 = .ok (.pop, 1) := by decide +kernel
theorem dL_drawn_95 : decode cL_drawn 95 = .ok (.iconst 0, 1) := by decide +kernel
theorem dL_drawn_96 : decode cL_drawn 96 = .ok (.istore 10, 2) := by decide +kernel
theorem dL_drawn_98 : decode cL_drawn 98 = .ok (.iload 10, 2) := by decide +kernel
theorem dL_drawn_100 : decode cL_drawn 100 = .ok (.iload 9, 2) := by decide +kernel
theorem dL_drawn_102 : decode cL_drawn 102 = .ok (.if_icmp .ge 212, 3) := by decide +kernel
theorem dL_drawn_105 : decode cL_drawn 105 = .ok (.aload_n 0, 1) := by decide +kernel
theorem dL_drawn_106 : decode cL_drawn 106 = .ok (.iconst 5, 1) := by decide +kernel
theorem dL_drawn_107 : decode cL_drawn 107 = .ok (.invokevirtual 37, 3) := by decide +kernel
theorem dL_drawn_110 : decode cL_drawn 110 = .ok (.istore 11, 2) := by decide +kernel
theorem dL_drawn_112 : decode cL_drawn 112 = .ok (.iconst 1, 1) := by decide +kernel
theorem dL_drawn_113 : decode cL_drawn 113 = .ok (.aload_n 0, 1) := by decide +kernel
theorem dL_drawn_114 : decode cL_drawn 114 = .ok (.bipush 40, 2) := by decide +kernel
theorem dL_drawn_116 : decode cL_drawn 116 = .ok (.invokevirtual 37, 3) := by decide +kernel
theorem dL_drawn_119 : decode cL_drawn 119 = .ok (.iadd, 1) := by decide +kernel
theorem dL_drawn_120 : decode cL_drawn 120 = .ok (.istore 12, 2) := by decide +kernel
theorem dL_drawn_122 : decode cL_drawn 122 = .ok (.iconst 1, 1) := by decide +kernel
theorem dL_drawn_123 : decode cL_drawn 123 = .ok (.aload_n 0, 1) := by decide +kernel
theorem dL_drawn_124 : decode cL_drawn 124 = .ok (.bipush 40, 2) := by decide +kernel
theorem dL_drawn_126 : decode cL_drawn 126 = .ok (.invokevirtual 37, 3) := by decide +kernel
theorem dL_drawn_129 : decode cL_drawn 129 = .ok (.iadd, 1) := by decide +kernel
theorem dL_drawn_130 : decode cL_drawn 130 = .ok (.istore 13, 2) := by decide +kernel
theorem dL_drawn_132 : decode cL_drawn 132 = .ok (.iconst 1, 1) := by decide +kernel
theorem dL_drawn_133 : decode cL_drawn 133 = .ok (.aload_n 0, 1) := by decide +kernel
theorem dL_drawn_134 : decode cL_drawn 134 = .ok (.aload_n 0, 1) := by decide +kernel
theorem dL_drawn_135 : decode cL_drawn 135 = .ok (.iconst 3, 1) := by decide +kernel
theorem dL_drawn_136 : decode cL_drawn 136 = .ok (.invokevirtual 37, 3) := by decide +kernel
theorem dL_drawn_139 : decode cL_drawn 139 = .ok (.ifCond .ne 8, 3) := by decide +kernel
theorem dL_drawn_142 : decode cL_drawn 142 = .ok (.bipush 8, 2) := by decide +kernel
theorem dL_drawn_144 : decode cL_drawn 144 = .ok (.goto 4, 3) := by decide +kernel
theorem dL_drawn_147 : decode cL_drawn 147 = .ok (.iconst 4, 1) := by decide +kernel
theorem dL_drawn_148 : decode cL_drawn 148 = .ok (.invokevirtual 37, 3) := by decide +kernel
theorem dL_drawn_151 : decode cL_drawn 151 = .ok (.iadd, 1) := by decide +kernel
theorem dL_drawn_152 : decode cL_drawn 152 = .ok (.istore 14, 2) := by decide +kernel
theorem dL_drawn_154 : decode cL_drawn 154 = .ok (.aload_n 1, 1) := by decide +kernel
theorem dL_drawn_155 : decode cL_drawn 155 = .ok (.iload 10, 2) := by decide +kernel
theorem dL_drawn_157 : decode cL_drawn 157 = .ok (.ifCond .ne 8, 3) := by decide +kernel
theorem dL_drawn_160 : decode cL_drawn 160 = .ok (.ldc 65, 2) := by decide +kernel
theorem dL_drawn_162 : decode cL_drawn 162 = .ok (.goto 5, 3) := by decide +kernel
theorem dL_drawn_165 : decode cL_drawn 165 = .ok (.ldc 67, 2) := by decide +kernel
theorem dL_drawn_167 : decode cL_drawn 167 = .ok (.invokevirtual 54, 3) := by decide +kernel
theorem dL_drawn_170 : decode cL_drawn 170 = .ok (.pop, 1) := by decide +kernel
theorem dL_drawn_171 : decode cL_drawn 171 = .ok (.iload 11, 2) := by decide +kernel
theorem dL_drawn_173 : decode cL_drawn 173 = .ok (.iconst 2, 1) := by decide +kernel
theorem dL_drawn_174 : decode cL_drawn 174 = .ok (.if_icmp .ge 18, 3) := by decide +kernel
theorem dL_drawn_177 : decode cL_drawn 177 = .ok (.aload_n 1, 1) := by decide +kernel
theorem dL_drawn_178 : decode cL_drawn 178 = .ok (.ldc 69, 2) := by decide +kernel
theorem dL_drawn_180 : decode cL_drawn 180 = .ok (.invokevirtual 54, 3) := by decide +kernel
theorem dL_drawn_183 : decode cL_drawn 183 = .ok (.iload 12, 2) := by decide +kernel
theorem dL_drawn_185 : decode cL_drawn 185 = .ok (.invokevirtual 60, 3) := by decide +kernel
theorem dL_drawn_188 : decode cL_drawn 188 = .ok (.pop, 1) := by decide +kernel
theorem dL_drawn_189 : decode cL_drawn 189 = .ok (.goto 41, 3) := by decide +kernel
theorem dL_drawn_192 : decode cL_drawn 192 = .ok (.iload 11, 2) := by decide +kernel
theorem dL_drawn_194 : decode cL_drawn 194 = .ok (.iconst 4, 1) := by decide +kernel
theorem dL_drawn_195 : decode cL_drawn 195 = .ok (.if_icmp .ge 28, 3) := by decide +kernel
theorem dL_drawn_198 : decode cL_drawn 198 = .ok (.aload_n 1, 1) := by decide +kernel
theorem dL_drawn_199 : decode cL_drawn 199 = .ok (.ldc 71, 2) := by decide +kernel
theorem dL_drawn_201 : decode cL_drawn 201 = .ok (.invokevirtual 54, 3) := by decide +kernel
theorem dL_drawn_204 : decode cL_drawn 204 = .ok (.iload 12, 2) := by decide +kernel
theorem dL_drawn_206 : decode cL_drawn 206 = .ok (.invokevirtual 60, 3) := by decide +kernel
theorem dL_drawn_209 : decode cL_drawn 209 = .ok (.ldc 73, 2) := by decide +kernel
theorem dL_drawn_211 : decode cL_drawn 211 = .ok (.invokevirtual 54, 3) := by decide +kernel
theorem dL_drawn_214 : decode cL_drawn 214 = .ok (.iload 13, 2) := by decide +kernel
theorem dL_drawn_216 : decode cL_drawn 216 = .ok (.invokevirtual 60, 3) := by decide +kernel
theorem dL_drawn_219 : decode cL_drawn 219 = .ok (.pop, 1) := by decide +kernel
theorem dL_drawn_220 : decode cL_drawn 220 = .ok (.goto 10, 3) := by decide +kernel
theorem dL_drawn_223 : decode cL_drawn 223 = .ok (.aload_n 1, 1) := by decide +kernel
theorem dL_drawn_224 : decode cL_drawn 224 = .ok (.ldc 75, 2) := by decide +kernel
theorem dL_drawn_226 : decode cL_drawn 226 = .ok (.invokevirtual 54, 3) := by decide +kernel
theorem dL_drawn_229 : decode cL_drawn 229 = .ok (.pop, 1) := by decide +kernel
theorem dL_drawn_230 : decode cL_drawn 230 = .ok (.aload_n 1, 1) := by decide +kernel
theorem dL_drawn_231 : decode cL_drawn 231 = .ok (.ldc 77, 2) := by decide +kernel
theorem dL_drawn_233 : decode cL_drawn 233 = .ok (.invokevirtual 54, 3) := by decide +kernel
theorem dL_drawn_236 : decode cL_drawn 236 = .ok (.iload 14, 2) := by decide +kernel
theorem dL_drawn_238 : decode cL_drawn 238 = .ok (.invokevirtual 60, 3) := by decide +kernel
theorem dL_drawn_241 : decode cL_drawn 241 = .ok (.pop, 1) := by decide +kernel
theorem dL_drawn_242 : decode cL_drawn 242 = .ok (.iconst 0, 1) := by decide +kernel
theorem dL_drawn_243 : decode cL_drawn 243 = .ok (.istore 15, 2) := by decide +kernel
theorem dL_drawn_245 : decode cL_drawn 245 = .ok (.iload 15, 2) := by decide +kernel
theorem dL_drawn_247 : decode cL_drawn 247 = .ok (.iload 14, 2) := by decide +kernel
theorem dL_drawn_249 : decode cL_drawn 249 = .ok (.if_icmp .ge 52, 3) := by decide +kernel
theorem dL_drawn_252 : decode cL_drawn 252 = .ok (.aload 7, 2) := by decide +kernel
theorem dL_drawn_254 : decode cL_drawn 254 = .ok (.iload 8, 2) := by decide +kernel
theorem dL_drawn_256 : decode cL_drawn 256 = .ok (.iload 15, 2) := by decide +kernel
theorem dL_drawn_258 : decode cL_drawn 258 = .ok (.iadd, 1) := by decide +kernel
theorem dL_drawn_259 : decode cL_drawn 259 = .ok (.iload 11, 2) := by decide +kernel
theorem dL_drawn_261 : decode cL_drawn 261 = .ok (.iconst 2, 1) := by decide +kernel
theorem dL_drawn_262 : decode cL_drawn 262 = .ok (.if_icmp .ge 8, 3) := by decide +kernel
theorem dL_drawn_265 : decode cL_drawn 265 = .ok (.iload 12, 2) := by decide +kernel
theorem dL_drawn_267 : decode cL_drawn 267 = .ok (.goto 27, 3) := by decide +kernel
theorem dL_drawn_270 : decode cL_drawn 270 = .ok (.iload 11, 2) := by decide +kernel
theorem dL_drawn_272 : decode cL_drawn 272 = .ok (.iconst 4, 1) := by decide +kernel
theorem dL_drawn_273 : decode cL_drawn 273 = .ok (.if_icmp .ge 20, 3) := by decide +kernel
theorem dL_drawn_276 : decode cL_drawn 276 = .ok (.iload 12, 2) := by decide +kernel
theorem dL_drawn_278 : decode cL_drawn 278 = .ok (.iload 15, 2) := by decide +kernel
theorem dL_drawn_280 : decode cL_drawn 280 = .ok (.iload 13, 2) := by decide +kernel
theorem dL_drawn_282 : decode cL_drawn 282 = .ok (.iload 12, 2) := by decide +kernel
theorem dL_drawn_284 : decode cL_drawn 284 = .ok (.isub, 1) := by decide +kernel
theorem dL_drawn_285 : decode cL_drawn 285 = .ok (.imul, 1) := by decide +kernel
theorem dL_drawn_286 : decode cL_drawn 286 = .ok (.iload 14, 2) := by decide +kernel
theorem dL_drawn_288 : decode cL_drawn 288 = .ok (.idiv, 1) := by decide +kernel
theorem dL_drawn_289 : decode cL_drawn 289 = .ok (.iadd, 1) := by decide +kernel
theorem dL_drawn_290 : decode cL_drawn 290 = .ok (.goto 4, 3) := by decide +kernel
theorem dL_drawn_293 : decode cL_drawn 293 = .ok (.iconst 0, 1) := by decide +kernel
theorem dL_drawn_294 : decode cL_drawn 294 = .ok (.iastore, 1) := by decide +kernel
theorem dL_drawn_295 : decode cL_drawn 295 = .ok (.iinc 15 1, 3) := by decide +kernel
theorem dL_drawn_298 : decode cL_drawn 298 = .ok (.goto (-53), 3) := by decide +kernel
theorem dL_drawn_301 : decode cL_drawn 301 = .ok (.iload 8, 2) := by decide +kernel
theorem dL_drawn_303 : decode cL_drawn 303 = .ok (.iload 14, 2) := by decide +kernel
theorem dL_drawn_305 : decode cL_drawn 305 = .ok (.iadd, 1) := by decide +kernel
theorem dL_drawn_306 : decode cL_drawn 306 = .ok (.istore 8, 2) := by decide +kernel
theorem dL_drawn_308 : decode cL_drawn 308 = .ok (.iinc 10 1, 3) := by decide +kernel
theorem dL_drawn_311 : decode cL_drawn 311 = .ok (.goto (-213), 3) := by decide +kernel
theorem dL_drawn_314 : decode cL_drawn 314 = .ok (.aload_n 1, 1) := by decide +kernel
theorem dL_drawn_315 : decode cL_drawn 315 = .ok (.aload_n 0, 1) := by decide +kernel
theorem dL_drawn_316 : decode cL_drawn 316 = .ok (.iconst 5, 1) := by decide +kernel
theorem dL_drawn_317 : decode cL_drawn 317 = .ok (.invokevirtual 37, 3) := by decide +kernel
theorem dL_drawn_320 : decode cL_drawn 320 = .ok (.ifCond .ne 8, 3) := by decide +kernel
theorem dL_drawn_323 : decode cL_drawn 323 = .ok (.ldc 79, 2) := by decide +kernel
theorem dL_drawn_325 : decode cL_drawn 325 = .ok (.goto 5, 3) := by decide +kernel
theorem dL_drawn_328 : decode cL_drawn 328 = .ok (.ldc 81, 2) := by decide +kernel
theorem dL_drawn_330 : decode cL_drawn 330 = .ok (.invokevirtual 54, 3) := by decide +kernel
theorem dL_drawn_333 : decode cL_drawn 333 = .ok (.pop, 1) := by decide +kernel
theorem dL_drawn_334 : decode cL_drawn 334 = .ok (.aload 4, 2) := by decide +kernel
theorem dL_drawn_336 : decode cL_drawn 336 = .ok (.getfield 44, 3) := by decide +kernel
theorem dL_drawn_339 : decode cL_drawn 339 = .ok (.iload 6, 2) := by decide +kernel
theorem dL_drawn_341 : decode cL_drawn 341 = .ok (.iload 8, 2) := by decide +kernel
theorem dL_drawn_343 : decode cL_drawn 343 = .ok (.newarray .int, 2) := by decide +kernel
theorem dL_drawn_345 : decode cL_drawn 345 = .ok (.aastore, 1) := by decide +kernel
theorem dL_drawn_346 : decode cL_drawn 346 = .ok (.iconst 0, 1) := by decide +kernel
theorem dL_drawn_347 : decode cL_drawn 347 = .ok (.istore 10, 2) := by decide +kernel
theorem dL_drawn_349 : decode cL_drawn 349 = .ok (.iload 10, 2) := by decide +kernel
theorem dL_drawn_351 : decode cL_drawn 351 = .ok (.iload 8, 2) := by decide +kernel
theorem dL_drawn_353 : decode cL_drawn 353 = .ok (.if_icmp .ge 25, 3) := by decide +kernel
theorem dL_drawn_356 : decode cL_drawn 356 = .ok (.aload 4, 2) := by decide +kernel
theorem dL_drawn_358 : decode cL_drawn 358 = .ok (.getfield 44, 3) := by decide +kernel
theorem dL_drawn_361 : decode cL_drawn 361 = .ok (.iload 6, 2) := by decide +kernel
theorem dL_drawn_363 : decode cL_drawn 363 = .ok (.aaload, 1) := by decide +kernel
theorem dL_drawn_364 : decode cL_drawn 364 = .ok (.iload 10, 2) := by decide +kernel
theorem dL_drawn_366 : decode cL_drawn 366 = .ok (.aload 7, 2) := by decide +kernel
theorem dL_drawn_368 : decode cL_drawn 368 = .ok (.iload 10, 2) := by decide +kernel
theorem dL_drawn_370 : decode cL_drawn 370 = .ok (.iaload, 1) := by decide +kernel
theorem dL_drawn_371 : decode cL_drawn 371 = .ok (.iastore, 1) := by decide +kernel
theorem dL_drawn_372 : decode cL_drawn 372 = .ok (.iinc 10 1, 3) := by decide +kernel
theorem dL_drawn_375 : decode cL_drawn 375 = .ok (.goto (-26), 3) := by decide +kernel
theorem dL_drawn_378 : decode cL_drawn 378 = .ok (.iinc 6 1, 3) := by decide +kernel
theorem dL_drawn_381 : decode cL_drawn 381 = .ok (.goto (-328), 3) := by decide +kernel
theorem dL_drawn_384 : decode cL_drawn 384 = .ok (.aload_n 0, 1) := by decide +kernel
theorem dL_drawn_385 : decode cL_drawn 385 = .ok (.iconst 2, 1) := by decide +kernel
theorem dL_drawn_386 : decode cL_drawn 386 = .ok (.invokevirtual 37, 3) := by decide +kernel
theorem dL_drawn_389 : decode cL_drawn 389 = .ok (.ifCond .ne 46, 3) := by decide +kernel
theorem dL_drawn_392 : decode cL_drawn 392 = .ok (.aload 4, 2) := by decide +kernel
theorem dL_drawn_394 : decode cL_drawn 394 = .ok (.aload_n 0, 1) := by decide +kernel
theorem dL_drawn_395 : decode cL_drawn 395 = .ok (.aload_n 0, 1) := by decide +kernel
theorem dL_drawn_396 : decode cL_drawn 396 = .ok (.iconst 2, 1) := by decide +kernel
theorem dL_drawn_397 : decode cL_drawn 397 = .ok (.invokevirtual 37, 3) := by decide +kernel
theorem dL_drawn_400 : decode cL_drawn 400 = .ok (.ifCond .ne 8, 3) := by decide +kernel
theorem dL_drawn_403 : decode cL_drawn 403 = .ok (.bipush 21, 2) := by decide +kernel
theorem dL_drawn_405 : decode cL_drawn 405 = .ok (.goto 4, 3) := by decide +kernel
theorem dL_drawn_408 : decode cL_drawn 408 = .ok (.iconst 3, 1) := by decide +kernel
theorem dL_drawn_409 : decode cL_drawn 409 = .ok (.invokevirtual 37, 3) := by decide +kernel
theorem dL_drawn_412 : decode cL_drawn 412 = .ok (.putfield 83, 3) := by decide +kernel
theorem dL_drawn_415 : decode cL_drawn 415 = .ok (.aload_n 1, 1) := by decide +kernel
theorem dL_drawn_416 : decode cL_drawn 416 = .ok (.ldc 87, 2) := by decide +kernel
theorem dL_drawn_418 : decode cL_drawn 418 = .ok (.invokevirtual 54, 3) := by decide +kernel
theorem dL_drawn_421 : decode cL_drawn 421 = .ok (.aload 4, 2) := by decide +kernel
theorem dL_drawn_423 : decode cL_drawn 423 = .ok (.getfield 83, 3) := by decide +kernel
theorem dL_drawn_426 : decode cL_drawn 426 = .ok (.invokevirtual 60, 3) := by decide +kernel
theorem dL_drawn_429 : decode cL_drawn 429 = .ok (.ldc 81, 2) := by decide +kernel
theorem dL_drawn_431 : decode cL_drawn 431 = .ok (.invokevirtual 54, 3) := by decide +kernel
theorem dL_drawn_434 : decode cL_drawn 434 = .ok (.pop, 1) := by decide +kernel
theorem dL_drawn_435 : decode cL_drawn 435 = .ok (.aload_n 0, 1) := by decide +kernel
theorem dL_drawn_436 : decode cL_drawn 436 = .ok (.iconst 2, 1) := by decide +kernel
theorem dL_drawn_437 : decode cL_drawn 437 = .ok (.invokevirtual 37, 3) := by decide +kernel
theorem dL_drawn_440 : decode cL_drawn 440 = .ok (.ifCond .ne 47, 3) := by decide +kernel
theorem dL_drawn_443 : decode cL_drawn 443 = .ok (.aload 4, 2) := by decide +kernel
theorem dL_drawn_445 : decode cL_drawn 445 = .ok (.aload_n 0, 1) := by decide +kernel
theorem dL_drawn_446 : decode cL_drawn 446 = .ok (.aload_n 0, 1) := by decide +kernel
theorem dL_drawn_447 : decode cL_drawn 447 = .ok (.iconst 2, 1) := by decide +kernel
theorem dL_drawn_448 : decode cL_drawn 448 = .ok (.invokevirtual 37, 3) := by decide +kernel
theorem dL_drawn_451 : decode cL_drawn 451 = .ok (.ifCond .ne 8, 3) := by decide +kernel
theorem dL_drawn_454 : decode cL_drawn 454 = .ok (.bipush 100, 2) := by decide +kernel
theorem dL_drawn_456 : decode cL_drawn 456 = .ok (.goto 5, 3) := by decide +kernel
theorem dL_drawn_459 : decode cL_drawn 459 = .ok (.bipush 20, 2) := by decide +kernel
theorem dL_drawn_461 : decode cL_drawn 461 = .ok (.invokevirtual 37, 3) := by decide +kernel
theorem dL_drawn_464 : decode cL_drawn 464 = .ok (.putfield 89, 3) := by decide +kernel
theorem dL_drawn_467 : decode cL_drawn 467 = .ok (.aload_n 1, 1) := by decide +kernel
theorem dL_drawn_468 : decode cL_drawn 468 = .ok (.ldc 92, 2) := by decide +kernel
theorem dL_drawn_470 : decode cL_drawn 470 = .ok (.invokevirtual 54, 3) := by decide +kernel
theorem dL_drawn_473 : decode cL_drawn 473 = .ok (.aload 4, 2) := by decide +kernel
theorem dL_drawn_475 : decode cL_drawn 475 = .ok (.getfield 89, 3) := by decide +kernel
theorem dL_drawn_478 : decode cL_drawn 478 = .ok (.invokevirtual 60, 3) := by decide +kernel
theorem dL_drawn_481 : decode cL_drawn 481 = .ok (.ldc 81, 2) := by decide +kernel
theorem dL_drawn_483 : decode cL_drawn 483 = .ok (.invokevirtual 54, 3) := by decide +kernel
theorem dL_drawn_486 : decode cL_drawn 486 = .ok (.pop, 1) := by decide +kernel
theorem dL_drawn_487 : decode cL_drawn 487 = .ok (.iload 5, 2) := by decide +kernel
theorem dL_drawn_489 : decode cL_drawn 489 = .ok (.ifCond .ne 7, 3) := by decide +kernel
theorem dL_drawn_492 : decode cL_drawn 492 = .ok (.iconst 0, 1) := by decide +kernel
theorem dL_drawn_493 : decode cL_drawn 493 = .ok (.goto 10, 3) := by decide +kernel
theorem dL_drawn_496 : decode cL_drawn 496 = .ok (.aload_n 0, 1) := by decide +kernel
theorem dL_drawn_497 : decode cL_drawn 497 = .ok (.iload_n 3, 1) := by decide +kernel
theorem dL_drawn_498 : decode cL_drawn 498 = .ok (.iconst 1, 1) := by decide +kernel
theorem dL_drawn_499 : decode cL_drawn 499 = .ok (.iadd, 1) := by decide +kernel
theorem dL_drawn_500 : decode cL_drawn 500 = .ok (.invokevirtual 37, 3) := by decide +kernel
theorem dL_drawn_503 : decode cL_drawn 503 = .ok (.istore 6, 2) := by decide +kernel
theorem dL_drawn_505 : decode cL_drawn 505 = .ok (.aload 4, 2) := by decide +kernel
theorem dL_drawn_507 : decode cL_drawn 507 = .ok (.iload 6, 2) := by decide +kernel
theorem dL_drawn_509 : decode cL_drawn 509 = .ok (.anewarray 94, 3) := by decide +kernel
theorem dL_drawn_512 : decode cL_drawn 512 = .ok (.putfield 96, 3) := by decide +kernel
theorem dL_drawn_515 : decode cL_drawn 515 = .ok (.iconst 0, 1) := by decide +kernel
theorem dL_drawn_516 : decode cL_drawn 516 = .ok (.istore 7, 2) := by decide +kernel
theorem dL_drawn_518 : decode cL_drawn 518 = .ok (.iload 7, 2) := by decide +kernel
theorem dL_drawn_520 : decode cL_drawn 520 = .ok (.iload 6, 2) := by decide +kernel
theorem dL_drawn_522 : decode cL_drawn 522 = .ok (.if_icmp .ge 43, 3) := by decide +kernel
theorem dL_drawn_525 : decode cL_drawn 525 = .ok (.aload 4, 2) := by decide +kernel
theorem dL_drawn_527 : decode cL_drawn 527 = .ok (.getfield 96, 3) := by decide +kernel
theorem dL_drawn_530 : decode cL_drawn 530 = .ok (.iload 7, 2) := by decide +kernel
theorem dL_drawn_532 : decode cL_drawn 532 = .ok (.new 94, 3) := by decide +kernel
theorem dL_drawn_535 : decode cL_drawn 535 = .ok (.dup, 1) := by decide +kernel
theorem dL_drawn_536 : decode cL_drawn 536 = .ok (.aload_n 0, 1) := by decide +kernel
theorem dL_drawn_537 : decode cL_drawn 537 = .ok (.iload 5, 2) := by decide +kernel
theorem dL_drawn_539 : decode cL_drawn 539 = .ok (.invokespecial 100, 3) := by decide +kernel
theorem dL_drawn_542 : decode cL_drawn 542 = .ok (.aastore, 1) := by decide +kernel
theorem dL_drawn_543 : decode cL_drawn 543 = .ok (.aload_n 1, 1) := by decide +kernel
theorem dL_drawn_544 : decode cL_drawn 544 = .ok (.aload 4, 2) := by decide +kernel
theorem dL_drawn_546 : decode cL_drawn 546 = .ok (.getfield 96, 3) := by decide +kernel
theorem dL_drawn_549 : decode cL_drawn 549 = .ok (.iload 7, 2) := by decide +kernel
theorem dL_drawn_551 : decode cL_drawn 551 = .ok (.aaload, 1) := by decide +kernel
theorem dL_drawn_552 : decode cL_drawn 552 = .ok (.invokevirtual 103, 3) := by decide +kernel
theorem dL_drawn_555 : decode cL_drawn 555 = .ok (.invokevirtual 54, 3) := by decide +kernel
theorem dL_drawn_558 : decode cL_drawn 558 = .ok (.pop, 1) := by decide +kernel
theorem dL_drawn_559 : decode cL_drawn 559 = .ok (.iinc 7 1, 3) := by decide +kernel
theorem dL_drawn_562 : decode cL_drawn 562 = .ok (.goto (-44), 3) := by decide +kernel
theorem dL_drawn_565 : decode cL_drawn 565 = .ok (.aload 4, 2) := by decide +kernel
theorem dL_drawn_567 : decode cL_drawn 567 = .ok (.areturn, 1) := by decide +kernel
theorem dL_act_0 : decode cL_act 0 = .ok (.aload_n 1, 1) := by decide +kernel
theorem dL_act_1 : decode cL_act 1 = .ok (.getfield 44, 3) := by decide +kernel
theorem dL_act_4 : decode cL_act 4 = .ok (.arraylength, 1) := by decide +kernel
theorem dL_act_5 : decode cL_act 5 = .ok (.istore_n 3, 1) := by decide +kernel
theorem dL_act_6 : decode cL_act 6 = .ok (.aload_n 2, 1) := by decide +kernel
theorem dL_act_7 : decode cL_act 7 = .ok (.bipush 12, 2) := by decide +kernel
theorem dL_act_9 : decode cL_act 9 = .ok (.invokevirtual 37, 3) := by decide +kernel
theorem dL_act_12 : decode cL_act 12 = .ok (.istore 4, 2) := by decide +kernel
theorem dL_act_14 : decode cL_act 14 = .ok (.iload 4, 2) := by decide +kernel
theorem dL_act_16 : decode cL_act 16 = .ok (.bipush 8, 2) := by decide +kernel
theorem dL_act_18 : decode cL_act 18 = .ok (.if_icmp .le 46, 3) := by decide +kernel
theorem dL_act_21 : decode cL_act 21 = .ok (.iconst 1, 1) := by decide +kernel
theorem dL_act_22 : decode cL_act 22 = .ok (.aload_n 2, 1) := by decide +kernel
theorem dL_act_23 : decode cL_act 23 = .ok (.aload_n 2, 1) := by decide +kernel
theorem dL_act_24 : decode cL_act 24 = .ok (.iconst 3, 1) := by decide +kernel
theorem dL_act_25 : decode cL_act 25 = .ok (.invokevirtual 37, 3) := by decide +kernel
theorem dL_act_28 : decode cL_act 28 = .ok (.ifCond .ne 8, 3) := by decide +kernel
theorem dL_act_31 : decode cL_act 31 = .ok (.bipush 6, 2) := by decide +kernel
theorem dL_act_33 : decode cL_act 33 = .ok (.goto 4, 3) := by decide +kernel
theorem dL_act_36 : decode cL_act 36 = .ok (.iconst 2, 1) := by decide +kernel
theorem dL_act_37 : decode cL_act 37 = .ok (.invokevirtual 37, 3) := by decide +kernel
theorem dL_act_40 : decode cL_act 40 = .ok (.iadd, 1) := by decide +kernel
theorem dL_act_41 : decode cL_act 41 = .ok (.istore 5, 2) := by decide +kernel
theorem dL_act_43 : decode cL_act 43 = .ok (.aload_n 0, 1) := by decide +kernel
theorem dL_act_44 : decode cL_act 44 = .ok (.iload 5, 2) := by decide +kernel
theorem dL_act_46 : decode cL_act 46 = .ok (.invokevirtual 107, 3) := by decide +kernel
theorem dL_act_49 : decode cL_act 49 = .ok (.aload_n 1, 1) := by decide +kernel
theorem dL_act_50 : decode cL_act 50 = .ok (.iload 5, 2) := by decide +kernel
theorem dL_act_52 : decode cL_act 52 = .ok (.invokevirtual 110, 3) := by decide +kernel
theorem dL_act_55 : decode cL_act 55 = .ok (.if_icmp .ne 7, 3) := by decide +kernel
theorem dL_act_58 : decode cL_act 58 = .ok (.iconst 1, 1) := by decide +kernel
theorem dL_act_59 : decode cL_act 59 = .ok (.goto 4, 3) := by decide +kernel
theorem dL_act_62 : decode cL_act 62 = .ok (.iconst 0, 1) := by decide +kernel
theorem dL_act_63 : decode cL_act 63 = .ok (.ireturn, 1) := by decide +kernel
theorem dL_act_64 : decode cL_act 64 = .ok (.iload_n 3, 1) := by decide +kernel
theorem dL_act_65 : decode cL_act 65 = .ok (.ifCond .eq 9, 3) := by decide +kernel
theorem dL_act_68 : decode cL_act 68 = .ok (.iload 4, 2) := by decide +kernel
theorem dL_act_70 : decode cL_act 70 = .ok (.iconst 4, 1) := by decide +kernel
theorem dL_act_71 : decode cL_act 71 = .ok (.if_icmp .ge 141, 3) := by decide +kernel
theorem dL_act_74 : decode cL_act 74 = .ok (.aload_n 2, 1) := by decide +kernel
theorem dL_act_75 : decode cL_act 75 = .ok (.iconst 5, 1) := by decide +kernel
theorem dL_act_76 : decode cL_act 76 = .ok (.invokevirtual 37, 3) := by decide +kernel
theorem dL_act_79 : decode cL_act 79 = .ok (.ifCond .ne 7, 3) := by decide +kernel
theorem dL_act_82 : decode cL_act 82 = .ok (.iconst 0, 1) := by decide +kernel
theorem dL_act_83 : decode cL_act 83 = .ok (.goto 11, 3) := by decide +kernel
theorem dL_act_86 : decode cL_act 86 = .ok (.iconst 1, 1) := by decide +kernel
theorem dL_act_87 : decode cL_act 87 = .ok (.aload_n 2, 1) := by decide +kernel
theorem dL_act_88 : decode cL_act 88 = .ok (.bipush 40, 2) := by decide +kernel
theorem dL_act_90 : decode cL_act 90 = .ok (.invokevirtual 37, 3) := by decide +kernel
theorem dL_act_93 : decode cL_act 93 = .ok (.iadd, 1) := by decide +kernel
theorem dL_act_94 : decode cL_act 94 = .ok (.istore 5, 2) := by decide +kernel
theorem dL_act_96 : decode cL_act 96 = .ok (.aload_n 1, 1) := by decide +kernel
theorem dL_act_97 : decode cL_act 97 = .ok (.getfield 113, 3) := by decide +kernel
theorem dL_act_100 : decode cL_act 100 = .ok (.arraylength, 1) := by decide +kernel
theorem dL_act_101 : decode cL_act 101 = .ok (.bipush 24, 2) := by decide +kernel
theorem dL_act_103 : decode cL_act 103 = .ok (.if_icmp .ge 7, 3) := by decide +kernel
theorem dL_act_106 : decode cL_act 106 = .ok (.iconst 1, 1) := by decide +kernel
theorem dL_act_107 : decode cL_act 107 = .ok (.goto 4, 3) := by decide +kernel
theorem dL_act_110 : decode cL_act 110 = .ok (.iconst 0, 1) := by decide +kernel
theorem dL_act_111 : decode cL_act 111 = .ok (.istore 6, 2) := by decide +kernel
theorem dL_act_113 : decode cL_act 113 = .ok (.aload_n 1, 1) := by decide +kernel
theorem dL_act_114 : decode cL_act 114 = .ok (.getfield 113, 3) := by decide +kernel
theorem dL_act_117 : decode cL_act 117 = .ok (.arraylength, 1) := by decide +kernel
theorem dL_act_118 : decode cL_act 118 = .ok (.iconst 1, 1) := by decide +kernel
theorem dL_act_119 : decode cL_act 119 = .ok (.iadd, 1) := by decide +kernel
theorem dL_act_120 : decode cL_act 120 = .ok (.newarray .int, 2) := by decide +kernel
theorem dL_act_122 : decode cL_act 122 = .ok (.astore 7, 2) := by decide +kernel
theorem dL_act_124 : decode cL_act 124 = .ok (.iconst 0, 1) := by decide +kernel
theorem dL_act_125 : decode cL_act 125 = .ok (.istore 8, 2) := by decide +kernel
theorem dL_act_127 : decode cL_act 127 = .ok (.iload 8, 2) := by decide +kernel
theorem dL_act_129 : decode cL_act 129 = .ok (.aload_n 1, 1) := by decide +kernel
theorem dL_act_130 : decode cL_act 130 = .ok (.getfield 113, 3) := by decide +kernel
theorem dL_act_133 : decode cL_act 133 = .ok (.arraylength, 1) := by decide +kernel
theorem dL_act_134 : decode cL_act 134 = .ok (.if_icmp .ge 21, 3) := by decide +kernel
theorem dL_act_137 : decode cL_act 137 = .ok (.aload 7, 2) := by decide +kernel
theorem dL_act_139 : decode cL_act 139 = .ok (.iload 8, 2) := by decide +kernel
theorem dL_act_141 : decode cL_act 141 = .ok (.aload_n 1, 1) := by decide +kernel
theorem dL_act_142 : decode cL_act 142 = .ok (.getfield 113, 3) := by decide +kernel
theorem dL_act_145 : decode cL_act 145 = .ok (.iload 8, 2) := by decide +kernel
theorem dL_act_147 : decode cL_act 147 = .ok (.iaload, 1) := by decide +kernel
theorem dL_act_148 : decode cL_act 148 = .ok (.iastore, 1) := by decide +kernel
theorem dL_act_149 : decode cL_act 149 = .ok (.iinc 8 1, 3) := by decide +kernel
theorem dL_act_152 : decode cL_act 152 = .ok (.goto (-25), 3) := by decide +kernel
theorem dL_act_155 : decode cL_act 155 = .ok (.aload 7, 2) := by decide +kernel
theorem dL_act_157 : decode cL_act 157 = .ok (.aload_n 1, 1) := by decide +kernel
theorem dL_act_158 : decode cL_act 158 = .ok (.getfield 113, 3) := by decide +kernel
theorem dL_act_161 : decode cL_act 161 = .ok (.arraylength, 1) := by decide +kernel
theorem dL_act_162 : decode cL_act 162 = .ok (.iload 5, 2) := by decide +kernel
theorem dL_act_164 : decode cL_act 164 = .ok (.iastore, 1) := by decide +kernel
theorem dL_act_165 : decode cL_act 165 = .ok (.iload 6, 2) := by decide +kernel
theorem dL_act_167 : decode cL_act 167 = .ok (.ifCond .eq 9, 3) := by decide +kernel
theorem dL_act_170 : decode cL_act 170 = .ok (.aload_n 1, 1) := by decide +kernel
theorem dL_act_171 : decode cL_act 171 = .ok (.aload 7, 2) := by decide +kernel
theorem dL_act_173 : decode cL_act 173 = .ok (.putfield 113, 3) := by decide +kernel
theorem dL_act_176 : decode cL_act 176 = .ok (.aload_n 0, 1) := by decide +kernel
theorem dL_act_177 : decode cL_act 177 = .ok (.iload 5, 2) := by decide +kernel
theorem dL_act_179 : decode cL_act 179 = .ok (.invokevirtual 116, 3) := by decide +kernel
theorem dL_act_182 : decode cL_act 182 = .ok (.aload 7, 2) := by decide +kernel
theorem dL_act_184 : decode cL_act 184 = .ok (.arraylength, 1) := by decide +kernel
theorem dL_act_185 : decode cL_act 185 = .ok (.if_icmp .ne 12, 3) := by decide +kernel
theorem dL_act_188 : decode cL_act 188 = .ok (.iload 6, 2) := by decide +kernel
theorem dL_act_190 : decode cL_act 190 = .ok (.ifCond .eq 7, 3) := by decide +kernel
theorem dL_act_193 : decode cL_act 193 = .ok (.iconst 1, 1) := by decide +kernel
theorem dL_act_194 : decode cL_act 194 = .ok (.goto 4, 3) := by decide +kernel
theorem dL_act_197 : decode cL_act 197 = .ok (.iconst 0, 1) := by decide +kernel
theorem dL_act_198 : decode cL_act 198 = .ok (.ireturn, 1) := by decide +kernel
theorem dL_act_199 : decode cL_act 199 = .ok (.astore 8, 2) := by decide +kernel
theorem dL_act_201 : decode cL_act 201 = .ok (.iload 6, 2) := by decide +kernel
theorem dL_act_203 : decode cL_act 203 = .ok (.ifCond .ne 7, 3) := by decide +kernel
theorem dL_act_206 : decode cL_act 206 = .ok (.iconst 1, 1) := by decide +kernel
theorem dL_act_207 : decode cL_act 207 = .ok (.goto 4, 3) := by decide +kernel
theorem dL_act_210 : decode cL_act 210 = .ok (.iconst 0, 1) := by decide +kernel
theorem dL_act_211 : decode cL_act 211 = .ok (.ireturn, 1) := by decide +kernel
theorem dL_act_212 : decode cL_act 212 = .ok (.aload_n 2, 1) := by decide +kernel
theorem dL_act_213 : decode cL_act 213 = .ok (.iload_n 3, 1) := by decide +kernel
theorem dL_act_214 : decode cL_act 214 = .ok (.invokevirtual 37, 3) := by decide +kernel
theorem dL_act_217 : decode cL_act 217 = .ok (.istore 5, 2) := by decide +kernel
theorem dL_act_219 : decode cL_act 219 = .ok (.iload 4, 2) := by decide +kernel
theorem dL_act_221 : decode cL_act 221 = .ok (.bipush 6, 2) := by decide +kernel
theorem dL_act_223 : decode cL_act 223 = .ok (.if_icmp .ge 53, 3) := by decide +kernel
theorem dL_act_226 : decode cL_act 226 = .ok (.aload_n 2, 1) := by decide +kernel
theorem dL_act_227 : decode cL_act 227 = .ok (.bipush 79, 2) := by decide +kernel
theorem dL_act_229 : decode cL_act 229 = .ok (.invokevirtual 37, 3) := by decide +kernel
theorem dL_act_232 : decode cL_act 232 = .ok (.bipush 39, 2) := by decide +kernel
theorem dL_act_234 : decode cL_act 234 = .ok (.isub, 1) := by decide +kernel
theorem dL_act_235 : decode cL_act 235 = .ok (.istore 6, 2) := by decide +kernel
theorem dL_act_237 : decode cL_act 237 = .ok (.aload_n 1, 1) := by decide +kernel
theorem dL_act_238 : decode cL_act 238 = .ok (.aload_n 1, 1) := by decide +kernel
theorem dL_act_239 : decode cL_act 239 = .ok (.getfield 44, 3) := by decide +kernel
theorem dL_act_242 : decode cL_act 242 = .ok (.iload 5, 2) := by decide +kernel
theorem dL_act_244 : decode cL_act 244 = .ok (.aaload, 1) := by decide +kernel
theorem dL_act_245 : decode cL_act 245 = .ok (.iload 6, 2) := by decide +kernel
theorem dL_act_247 : decode cL_act 247 = .ok (.i2l, 1) := by decide +kernel
theorem dL_act_248 : decode cL_act 248 = .ok (.invokestatic 121, 3) := by decide +kernel
theorem dL_act_251 : decode cL_act 251 = .ok (.putfield 113, 3) := by decide +kernel
theorem dL_act_254 : decode cL_act 254 = .ok (.aload_n 0, 1) := by decide +kernel
theorem dL_act_255 : decode cL_act 255 = .ok (.iload 5, 2) := by decide +kernel
theorem dL_act_257 : decode cL_act 257 = .ok (.iload 6, 2) := by decide +kernel
theorem dL_act_259 : decode cL_act 259 = .ok (.invokevirtual 125, 3) := by decide +kernel
theorem dL_act_262 : decode cL_act 262 = .ok (.aload_n 1, 1) := by decide +kernel
theorem dL_act_263 : decode cL_act 263 = .ok (.getfield 113, 3) := by decide +kernel
theorem dL_act_266 : decode cL_act 266 = .ok (.arraylength, 1) := by decide +kernel
theorem dL_act_267 : decode cL_act 267 = .ok (.if_icmp .ne 7, 3) := by decide +kernel
theorem dL_act_270 : decode cL_act 270 = .ok (.iconst 1, 1) := by decide +kernel
theorem dL_act_271 : decode cL_act 271 = .ok (.goto 4, 3) := by decide +kernel
theorem dL_act_274 : decode cL_act 274 = .ok (.iconst 0, 1) := by decide +kernel
theorem dL_act_275 : decode cL_act 275 = .ok (.ireturn, 1) := by decide +kernel
theorem dL_act_276 : decode cL_act 276 = .ok (.iload 4, 2) := by decide +kernel
theorem dL_act_278 : decode cL_act 278 = .ok (.bipush 6, 2) := by decide +kernel
theorem dL_act_280 : decode cL_act 280 = .ok (.if_icmp .ne 47, 3) := by decide +kernel
theorem dL_act_283 : decode cL_act 283 = .ok (.aload_n 1, 1) := by decide +kernel
theorem dL_act_284 : decode cL_act 284 = .ok (.getfield 48, 3) := by decide +kernel
theorem dL_act_287 : decode cL_act 287 = .ok (.iload 5, 2) := by decide +kernel
theorem dL_act_289 : decode cL_act 289 = .ok (.aload_n 1, 1) := by decide +kernel
theorem dL_act_290 : decode cL_act 290 = .ok (.getfield 48, 3) := by decide +kernel
theorem dL_act_293 : decode cL_act 293 = .ok (.iload 5, 2) := by decide +kernel
theorem dL_act_295 : decode cL_act 295 = .ok (.baload, 1) := by decide +kernel
theorem dL_act_296 : decode cL_act 296 = .ok (.ifCond .ne 7, 3) := by decide +kernel
theorem dL_act_299 : decode cL_act 299 = .ok (.iconst 1, 1) := by decide +kernel
theorem dL_act_300 : decode cL_act 300 = .ok (.goto 4, 3) := by decide +kernel
theorem dL_act_303 : decode cL_act 303 = .ok (.iconst 0, 1) := by decide +kernel
theorem dL_act_304 : decode cL_act 304 = .ok (.bastore, 1) := by decide +kernel
theorem dL_act_305 : decode cL_act 305 = .ok (.aload_n 0, 1) := by decide +kernel
theorem dL_act_306 : decode cL_act 306 = .ok (.iload 5, 2) := by decide +kernel
theorem dL_act_308 : decode cL_act 308 = .ok (.invokevirtual 129, 3) := by decide +kernel
theorem dL_act_311 : decode cL_act 311 = .ok (.aload_n 1, 1) := by decide +kernel
theorem dL_act_312 : decode cL_act 312 = .ok (.getfield 48, 3) := by decide +kernel
theorem dL_act_315 : decode cL_act 315 = .ok (.iload 5, 2) := by decide +kernel
theorem dL_act_317 : decode cL_act 317 = .ok (.baload, 1) := by decide +kernel
theorem dL_act_318 : decode cL_act 318 = .ok (.if_icmp .ne 7, 3) := by decide +kernel
theorem dL_act_321 : decode cL_act 321 = .ok (.iconst 1, 1) := by decide +kernel
theorem dL_act_322 : decode cL_act 322 = .ok (.goto 4, 3) := by decide +kernel
theorem dL_act_325 : decode cL_act 325 = .ok (.iconst 0, 1) := by decide +kernel
theorem dL_act_326 : decode cL_act 326 = .ok (.ireturn, 1) := by decide +kernel
theorem dL_act_327 : decode cL_act 327 = .ok (.iload 4, 2) := by decide +kernel
theorem dL_act_329 : decode cL_act 329 = .ok (.bipush 7, 2) := by decide +kernel
theorem dL_act_331 : decode cL_act 331 = .ok (.if_icmp .ne 32, 3) := by decide +kernel
theorem dL_act_334 : decode cL_act 334 = .ok (.aload_n 1, 1) := by decide +kernel
theorem dL_act_335 : decode cL_act 335 = .ok (.getfield 113, 3) := by decide +kernel
theorem dL_act_338 : decode cL_act 338 = .ok (.arraylength, 1) := by decide +kernel
theorem dL_act_339 : decode cL_act 339 = .ok (.istore 6, 2) := by decide +kernel
theorem dL_act_341 : decode cL_act 341 = .ok (.aload_n 1, 1) := by decide +kernel
theorem dL_act_342 : decode cL_act 342 = .ok (.iconst 0, 1) := by decide +kernel
theorem dL_act_343 : decode cL_act 343 = .ok (.newarray .int, 2) := by decide +kernel
theorem dL_act_345 : decode cL_act 345 = .ok (.putfield 113, 3) := by decide +kernel
theorem dL_act_348 : decode cL_act 348 = .ok (.aload_n 0, 1) := by decide +kernel
theorem dL_act_349 : decode cL_act 349 = .ok (.invokevirtual 133, 3) := by decide +kernel
theorem dL_act_352 : decode cL_act 352 = .ok (.iload 6, 2) := by decide +kernel
theorem dL_act_354 : decode cL_act 354 = .ok (.if_icmp .ne 7, 3) := by decide +kernel
theorem dL_act_357 : decode cL_act 357 = .ok (.iconst 1, 1) := by decide +kernel
theorem dL_act_358 : decode cL_act 358 = .ok (.goto 4, 3) := by decide +kernel
theorem dL_act_361 : decode cL_act 361 = .ok (.iconst 0, 1) := by decide +kernel
theorem dL_act_362 : decode cL_act 362 = .ok (.ireturn, 1) := by decide +kernel
theorem dL_act_363 : decode cL_act 363 = .ok (.iconst 0, 1) := by decide +kernel
theorem dL_act_364 : decode cL_act 364 = .ok (.istore 6, 2) := by decide +kernel
theorem dL_act_366 : decode cL_act 366 = .ok (.iconst 0, 1) := by decide +kernel
theorem dL_act_367 : decode cL_act 367 = .ok (.istore 7, 2) := by decide +kernel
theorem dL_act_369 : decode cL_act 369 = .ok (.iload 7, 2) := by decide +kernel
theorem dL_act_371 : decode cL_act 371 = .ok (.iload_n 3, 1) := by decide +kernel
theorem dL_act_372 : decode cL_act 372 = .ok (.if_icmp .ge 32, 3) := by decide +kernel
theorem dL_act_375 : decode cL_act 375 = .ok (.aload_n 1, 1) := by decide +kernel
theorem dL_act_376 : decode cL_act 376 = .ok (.iload 7, 2) := by decide +kernel
theorem dL_act_378 : decode cL_act 378 = .ok (.invokevirtual 136, 3) := by decide +kernel
theorem dL_act_381 : decode cL_act 381 = .ok (.ifCond .ne 6, 3) := by decide +kernel
theorem dL_act_384 : decode cL_act 384 = .ok (.goto 14, 3) := by decide +kernel
theorem dL_act_387 : decode cL_act 387 = .ok (.aload_n 1, 1) := by decide +kernel
theorem dL_act_388 : decode cL_act 388 = .ok (.getfield 48, 3) := by decide +kernel
theorem dL_act_391 : decode cL_act 391 = .ok (.iload 7, 2) := by decide +kernel
theorem dL_act_393 : decode cL_act 393 = .ok (.iconst 1, 1) := by decide +kernel
theorem dL_act_394 : decode cL_act 394 = .ok (.bastore, 1) := by decide +kernel
theorem dL_act_395 : decode cL_act 395 = .ok (.iinc 6 1, 3) := by decide +kernel
theorem dL_act_398 : decode cL_act 398 = .ok (.iinc 7 1, 3) := by decide +kernel
theorem dL_act_401 : decode cL_act 401 = .ok (.goto (-32), 3) := by decide +kernel
theorem dL_act_404 : decode cL_act 404 = .ok (.aload_n 0, 1) := by decide +kernel
theorem dL_act_405 : decode cL_act 405 = .ok (.invokevirtual 139, 3) := by decide +kernel
theorem dL_act_408 : decode cL_act 408 = .ok (.iload 6, 2) := by decide +kernel
theorem dL_act_410 : decode cL_act 410 = .ok (.if_icmp .ne 7, 3) := by decide +kernel
theorem dL_act_413 : decode cL_act 413 = .ok (.iconst 1, 1) := by decide +kernel
theorem dL_act_414 : decode cL_act 414 = .ok (.goto 4, 3) := by decide +kernel
theorem dL_act_417 : decode cL_act 417 = .ok (.iconst 0, 1) := by decide +kernel
theorem dL_act_418 : decode cL_act 418 = .ok (.ireturn, 1) := by decide +kernel
theorem dL_meant_0 : decode cL_meant 0 = .ok (.aload_n 0, 1) := by decide +kernel
theorem dL_meant_1 : decode cL_meant 1 = .ok (.invokevirtual 142, 3) := by decide +kernel
theorem dL_meant_4 : decode cL_meant 4 = .ok (.ireturn, 1) := by decide +kernel
theorem dL_meant_5 : decode cL_meant 5 = .ok (.astore_n 1, 1) := by decide +kernel
theorem dL_meant_6 : decode cL_meant 6 = .ok (.iconst (-1), 1) := by decide +kernel
theorem dL_meant_7 : decode cL_meant 7 = .ok (.ireturn, 1) := by decide +kernel
theorem dL_surety_0 : decode cL_surety 0 = .ok (.aload_n 0, 1) := by decide +kernel
theorem dL_surety_1 : decode cL_surety 1 = .ok (.invokevirtual 145, 3) := by decide +kernel
theorem dL_surety_4 : decode cL_surety 4 = .ok (.ireturn, 1) := by decide +kernel
theorem dL_surety_5 : decode cL_surety 5 = .ok (.astore_n 1, 1) := by decide +kernel
theorem dL_surety_6 : decode cL_surety 6 = .ok (.bipush (-2), 2) := by decide +kernel
theorem dL_surety_8 : decode cL_surety 8 = .ok (.ireturn, 1) := by decide +kernel
theorem dL_law_0 : decode cL_law 0 = .ok (.new 20, 3) := by decide +kernel
theorem dL_law_3 : decode cL_law 3 = .ok (.dup, 1) := by decide +kernel
theorem dL_law_4 : decode cL_law 4 = .ok (.invokespecial 148, 3) := by decide +kernel
theorem dL_law_7 : decode cL_law 7 = .ok (.astore_n 1, 1) := by decide +kernel
theorem dL_law_8 : decode cL_law 8 = .ok (.iconst 0, 1) := by decide +kernel
theorem dL_law_9 : decode cL_law 9 = .ok (.istore_n 2, 1) := by decide +kernel
theorem dL_law_10 : decode cL_law 10 = .ok (.iload_n 2, 1) := by decide +kernel
theorem dL_law_11 : decode cL_law 11 = .ok (.iconst 2, 1) := by decide +kernel
theorem dL_law_12 : decode cL_law 12 = .ok (.if_icmp .ge 1241, 3) := by decide +kernel
theorem dL_law_15 : decode cL_law 15 = .ok (.new 38, 3) := by decide +kernel
theorem dL_law_18 : decode cL_law 18 = .ok (.dup, 1) := by decide +kernel
theorem dL_law_19 : decode cL_law 19 = .ok (.aload_n 0, 1) := by decide +kernel
theorem dL_law_20 : decode cL_law 20 = .ok (.iload_n 2, 1) := by decide +kernel
theorem dL_law_21 : decode cL_law 21 = .ok (.invokestatic 149, 3) := by decide +kernel
theorem dL_law_24 : decode cL_law 24 = .ok (.aload_n 0, 1) := by decide +kernel
theorem dL_law_25 : decode cL_law 25 = .ok (.iload_n 2, 1) := by decide +kernel
theorem dL_law_26 : decode cL_law 26 = .ok (.iconst 3, 1) := by decide +kernel
theorem dL_law_27 : decode cL_law 27 = .ok (.iadd, 1) := by decide +kernel
theorem dL_law_28 : decode cL_law 28 = .ok (.invokestatic 149, 3) := by decide +kernel
theorem dL_law_31 : decode cL_law 31 = .ok (.bipush 31, 2) := by decide +kernel
theorem dL_law_33 : decode cL_law 33 = .ok (.imul, 1) := by decide +kernel
theorem dL_law_34 : decode cL_law 34 = .ok (.ixor, 1) := by decide +kernel
theorem dL_law_35 : decode cL_law 35 = .ok (.aload_n 0, 1) := by decide +kernel
theorem dL_law_36 : decode cL_law 36 = .ok (.iload_n 2, 1) := by decide +kernel
theorem dL_law_37 : decode cL_law 37 = .ok (.bipush 6, 2) := by decide +kernel
theorem dL_law_39 : decode cL_law 39 = .ok (.iadd, 1) := by decide +kernel
theorem dL_law_40 : decode cL_law 40 = .ok (.invokestatic 149, 3) := by decide +kernel
theorem dL_law_43 : decode cL_law 43 = .ok (.sipush 1009, 3) := by decide +kernel
theorem dL_law_46 : decode cL_law 46 = .ok (.imul, 1) := by decide +kernel
theorem dL_law_47 : decode cL_law 47 = .ok (.ixor, 1) := by decide +kernel
theorem dL_law_48 : decode cL_law 48 = .ok (.invokespecial 155, 3) := by decide +kernel
theorem dL_law_51 : decode cL_law 51 = .ok (.astore_n 3, 1) := by decide +kernel
theorem dL_law_52 : decode cL_law 52 = .ok (.new 55, 3) := by decide +kernel
theorem dL_law_55 : decode cL_law 55 = .ok (.dup, 1) := by decide +kernel
theorem dL_law_56 : decode cL_law 56 = .ok (.invokespecial 158, 3) := by decide +kernel
theorem dL_law_59 : decode cL_law 59 = .ok (.astore 4, 2) := by decide +kernel
theorem dL_law_61 : decode cL_law 61 = .ok (.aload_n 3, 1) := by decide +kernel
theorem dL_law_62 : decode cL_law 62 = .ok (.aload 4, 2) := by decide +kernel
theorem dL_law_64 : decode cL_law 64 = .ok (.iconst 1, 1) := by decide +kernel
theorem dL_law_65 : decode cL_law 65 = .ok (.iconst 4, 1) := by decide +kernel
theorem dL_law_66 : decode cL_law 66 = .ok (.invokestatic 159, 3) := by decide +kernel
theorem dL_law_69 : decode cL_law 69 = .ok (.astore 5, 2) := by decide +kernel
theorem dL_law_71 : decode cL_law 71 = .ok (.aload_n 1, 1) := by decide +kernel
theorem dL_law_72 : decode cL_law 72 = .ok (.aload 4, 2) := by decide +kernel
theorem dL_law_74 : decode cL_law 74 = .ok (.invokevirtual 163, 3) := by decide +kernel
theorem dL_law_77 : decode cL_law 77 = .ok (.invokestatic 166, 3) := by decide +kernel
theorem dL_law_80 : decode cL_law 80 = .ok (.ifCond .eq 5, 3) := by decide +kernel
theorem dL_law_83 : decode cL_law 83 = .ok (.iconst 0, 1) := by decide +kernel
theorem dL_law_84 : decode cL_law 84 = .ok (.ireturn, 1) := by decide +kernel
theorem dL_law_85 : decode cL_law 85 = .ok (.aload_n 1, 1) := by decide +kernel
theorem dL_law_86 : decode cL_law 86 = .ok (.invokevirtual 170, 3) := by decide +kernel
theorem dL_law_89 : decode cL_law 89 = .ok (.istore 6, 2) := by decide +kernel
theorem dL_law_91 : decode cL_law 91 = .ok (.iconst 0, 1) := by decide +kernel
theorem dL_law_92 : decode cL_law 92 = .ok (.istore 7, 2) := by decide +kernel
theorem dL_law_94 : decode cL_law 94 = .ok (.iload 7, 2) := by decide +kernel
theorem dL_law_96 : decode cL_law 96 = .ok (.bipush 6, 2) := by decide +kernel
theorem dL_law_98 : decode cL_law 98 = .ok (.if_icmp .ge 1138, 3) := by decide +kernel
theorem dL_law_101 : decode cL_law 101 = .ok (.iconst 0, 1) := by decide +kernel
theorem dL_law_102 : decode cL_law 102 = .ok (.istore 8, 2) := by decide +kernel
theorem dL_law_104 : decode cL_law 104 = .ok (.iload 8, 2) := by decide +kernel
theorem dL_law_106 : decode cL_law 106 = .ok (.iconst 3, 1) := by decide +kernel
theorem dL_law_107 : decode cL_law 107 = .ok (.if_icmp .ge 21, 3) := by decide +kernel
theorem dL_law_110 : decode cL_law 110 = .ok (.aload_n 1, 1) := by decide +kernel
theorem dL_law_111 : decode cL_law 111 = .ok (.aload 5, 2) := by decide +kernel
theorem dL_law_113 : decode cL_law 113 = .ok (.aload_n 3, 1) := by decide +kernel
theorem dL_law_114 : decode cL_law 114 = .ok (.invokestatic 172, 3) := by decide +kernel
theorem dL_law_117 : decode cL_law 117 = .ok (.ifCond .ne 5, 3) := by decide +kernel
theorem dL_law_120 : decode cL_law 120 = .ok (.iconst 0, 1) := by decide +kernel
theorem dL_law_121 : decode cL_law 121 = .ok (.ireturn, 1) := by decide +kernel
theorem dL_law_122 : decode cL_law 122 = .ok (.iinc 8 1, 3) := by decide +kernel
theorem dL_law_125 : decode cL_law 125 = .ok (.goto (-21), 3) := by decide +kernel
theorem dL_law_128 : decode cL_law 128 = .ok (.aload_n 1, 1) := by decide +kernel
theorem dL_law_129 : decode cL_law 129 = .ok (.invokevirtual 176, 3) := by decide +kernel
theorem dL_law_132 : decode cL_law 132 = .ok (.lstore 8, 2) := by decide +kernel
theorem dL_law_134 : decode cL_law 134 = .ok (.aload_n 1, 1) := by decide +kernel
theorem dL_law_135 : decode cL_law 135 = .ok (.invokevirtual 180, 3) := by decide +kernel
theorem dL_law_138 : decode cL_law 138 = .ok (.istore 10, 2) := by decide +kernel
theorem dL_law_140 : decode cL_law 140 = .ok (.aload_n 1, 1) := by decide +kernel
theorem dL_law_141 : decode cL_law 141 = .ok (.invokestatic 183, 3) := by decide +kernel
theorem dL_law_144 : decode cL_law 144 = .ok (.istore 11, 2) := by decide +kernel
theorem dL_law_146 : decode cL_law 146 = .ok (.aload_n 1, 1) := by decide +kernel
theorem dL_law_147 : decode cL_law 147 = .ok (.invokestatic 187, 3) := by decide +kernel
theorem dL_law_150 : decode cL_law 150 = .ok (.istore 12, 2) := by decide +kernel
theorem dL_law_152 : decode cL_law 152 = .ok (.iload 11, 2) := by decide +kernel
theorem dL_law_154 : decode cL_law 154 = .ok (.ifCond .ge 7, 3) := by decide +kernel
theorem dL_law_157 : decode cL_law 157 = .ok (.iconst 1, 1) := by decide +kernel
theorem dL_law_158 : decode cL_law 158 = .ok (.goto 4, 3) := by decide +kernel
theorem dL_law_161 : decode cL_law 161 = .ok (.iconst 0, 1) := by decide +kernel
theorem dL_law_162 : decode cL_law 162 = .ok (.iload 10, 2) := by decide +kernel
theorem dL_law_164 : decode cL_law 164 = .ok (.ifCond .eq 10, 3) := by decide +kernel
theorem dL_law_167 : decode cL_law 167 = .ok (.aload_n 1, 1) := by decide +kernel
theorem dL_law_168 : decode cL_law 168 = .ok (.invokevirtual 189, 3) := by decide +kernel
theorem dL_law_171 : decode cL_law 171 = .ok (.ifCond .ne 7, 3) := by decide +kernel
theorem dL_law_174 : decode cL_law 174 = .ok (.iconst 1, 1) := by decide +kernel
theorem dL_law_175 : decode cL_law 175 = .ok (.goto 4, 3) := by decide +kernel
theorem dL_law_178 : decode cL_law 178 = .ok (.iconst 0, 1) := by decide +kernel
theorem dL_law_179 : decode cL_law 179 = .ok (.if_icmp .ne 28, 3) := by decide +kernel
theorem dL_law_182 : decode cL_law 182 = .ok (.iload 11, 2) := by decide +kernel
theorem dL_law_184 : decode cL_law 184 = .ok (.ifCond .ge 7, 3) := by decide +kernel
theorem dL_law_187 : decode cL_law 187 = .ok (.iconst 1, 1) := by decide +kernel
theorem dL_law_188 : decode cL_law 188 = .ok (.goto 4, 3) := by decide +kernel
theorem dL_law_191 : decode cL_law 191 = .ok (.iconst 0, 1) := by decide +kernel
theorem dL_law_192 : decode cL_law 192 = .ok (.iload 12, 2) := by decide +kernel
theorem dL_law_194 : decode cL_law 194 = .ok (.bipush (-2), 2) := by decide +kernel
theorem dL_law_196 : decode cL_law 196 = .ok (.if_icmp .ne 7, 3) := by decide +kernel
theorem dL_law_199 : decode cL_law 199 = .ok (.iconst 1, 1) := by decide +kernel
theorem dL_law_200 : decode cL_law 200 = .ok (.goto 4, 3) := by decide +kernel
theorem dL_law_203 : decode cL_law 203 = .ok (.iconst 0, 1) := by decide +kernel
theorem dL_law_204 : decode cL_law 204 = .ok (.if_icmp .eq 5, 3) := by decide +kernel
theorem dL_law_207 : decode cL_law 207 = .ok (.iconst 0, 1) := by decide +kernel
theorem dL_law_208 : decode cL_law 208 = .ok (.ireturn, 1) := by decide +kernel
theorem dL_law_209 : decode cL_law 209 = .ok (.iconst (-1), 1) := by decide +kernel
theorem dL_law_210 : decode cL_law 210 = .ok (.istore 13, 2) := by decide +kernel
theorem dL_law_212 : decode cL_law 212 = .ok (.iconst 0, 1) := by decide +kernel
theorem dL_law_213 : decode cL_law 213 = .ok (.istore 14, 2) := by decide +kernel
theorem dL_law_215 : decode cL_law 215 = .ok (.iload 14, 2) := by decide +kernel
theorem dL_law_217 : decode cL_law 217 = .ok (.iload 6, 2) := by decide +kernel
theorem dL_law_219 : decode cL_law 219 = .ok (.if_icmp .ge 571, 3) := by decide +kernel
theorem dL_law_222 : decode cL_law 222 = .ok (.aload_n 1, 1) := by decide +kernel
theorem dL_law_223 : decode cL_law 223 = .ok (.iload 14, 2) := by decide +kernel
theorem dL_law_225 : decode cL_law 225 = .ok (.invokevirtual 192, 3) := by decide +kernel
theorem dL_law_228 : decode cL_law 228 = .ok (.istore 15, 2) := by decide +kernel
theorem dL_law_230 : decode cL_law 230 = .ok (.iconst 0, 1) := by decide +kernel
theorem dL_law_231 : decode cL_law 231 = .ok (.istore 16, 2) := by decide +kernel
theorem dL_law_233 : decode cL_law 233 = .ok (.iload 16, 2) := by decide +kernel
theorem dL_law_235 : decode cL_law 235 = .ok (.iload 15, 2) := by decide +kernel
theorem dL_law_237 : decode cL_law 237 = .ok (.if_icmp .ge 72, 3) := by decide +kernel
theorem dL_law_240 : decode cL_law 240 = .ok (.aload_n 1, 1) := by decide +kernel
theorem dL_law_241 : decode cL_law 241 = .ok (.iload 14, 2) := by decide +kernel
theorem dL_law_243 : decode cL_law 243 = .ok (.iload 16, 2) := by decide +kernel
theorem dL_law_245 : decode cL_law 245 = .ok (.invokevirtual 195, 3) := by decide +kernel
theorem dL_law_248 : decode cL_law 248 = .ok (.istore 17, 2) := by decide +kernel
theorem dL_law_250 : decode cL_law 250 = .ok (.iload 17, 2) := by decide +kernel
theorem dL_law_252 : decode cL_law 252 = .ok (.ifCond .lt 49, 3) := by decide +kernel
theorem dL_law_255 : decode cL_law 255 = .ok (.iload 17, 2) := by decide +kernel
theorem dL_law_257 : decode cL_law 257 = .ok (.bipush 40, 2) := by decide +kernel
theorem dL_law_259 : decode cL_law 259 = .ok (.if_icmp .gt 42, 3) := by decide +kernel
theorem dL_law_262 : decode cL_law 262 = .ok (.aload_n 1, 1) := by decide +kernel
theorem dL_law_263 : decode cL_law 263 = .ok (.iload 14, 2) := by decide +kernel
theorem dL_law_265 : decode cL_law 265 = .ok (.iload 16, 2) := by decide +kernel
theorem dL_law_267 : decode cL_law 267 = .ok (.invokevirtual 198, 3) := by decide +kernel
theorem dL_law_270 : decode cL_law 270 = .ok (.iload 16, 2) := by decide +kernel
theorem dL_law_272 : decode cL_law 272 = .ok (.iconst 1, 1) := by decide +kernel
theorem dL_law_273 : decode cL_law 273 = .ok (.iadd, 1) := by decide +kernel
theorem dL_law_274 : decode cL_law 274 = .ok (.iload 15, 2) := by decide +kernel
theorem dL_law_276 : decode cL_law 276 = .ok (.if_icmp .ne 7, 3) := by decide +kernel
theorem dL_law_279 : decode cL_law 279 = .ok (.iconst 0, 1) := by decide +kernel
theorem dL_law_280 : decode cL_law 280 = .ok (.goto 18, 3) := by decide +kernel
theorem dL_law_283 : decode cL_law 283 = .ok (.aload_n 1, 1) := by decide +kernel
theorem dL_law_284 : decode cL_law 284 = .ok (.iload 14, 2) := by decide +kernel
theorem dL_law_286 : decode cL_law 286 = .ok (.iload 16, 2) := by decide +kernel
theorem dL_law_288 : decode cL_law 288 = .ok (.iconst 1, 1) := by decide +kernel
theorem dL_law_289 : decode cL_law 289 = .ok (.iadd, 1) := by decide +kernel
theorem dL_law_290 : decode cL_law 290 = .ok (.invokevirtual 195, 3) := by decide +kernel
theorem dL_law_293 : decode cL_law 293 = .ok (.iload 17, 2) := by decide +kernel
theorem dL_law_295 : decode cL_law 295 = .ok (.invokestatic 201, 3) := by decide +kernel
theorem dL_law_298 : decode cL_law 298 = .ok (.if_icmp .eq 5, 3) := by decide +kernel
theorem dL_law_301 : decode cL_law 301 = .ok (.iconst 0, 1) := by decide +kernel
theorem dL_law_302 : decode cL_law 302 = .ok (.ireturn, 1) := by decide +kernel
theorem dL_law_303 : decode cL_law 303 = .ok (.iinc 16 1, 3) := by decide +kernel
theorem dL_law_306 : decode cL_law 306 = .ok (.goto (-73), 3) := by decide +kernel
theorem dL_law_309 : decode cL_law 309 = .ok (.iload 6, 2) := by decide +kernel
theorem dL_law_311 : decode cL_law 311 = .ok (.iconst 1, 1) := by decide +kernel
theorem dL_law_312 : decode cL_law 312 = .ok (.if_icmp .le 12, 3) := by decide +kernel
theorem dL_law_315 : decode cL_law 315 = .ok (.aload_n 1, 1) := by decide +kernel
theorem dL_law_316 : decode cL_law 316 = .ok (.iload 14, 2) := by decide +kernel
theorem dL_law_318 : decode cL_law 318 = .ok (.invokevirtual 206, 3) := by decide +kernel
theorem dL_law_321 : decode cL_law 321 = .ok (.goto 5, 3) := by decide +kernel
theorem dL_law_324 : decode cL_law 324 = .ok (.iload 14, 2) := by decide +kernel
theorem dL_law_326 : decode cL_law 326 = .ok (.istore 16, 2) := by decide +kernel
theorem dL_law_328 : decode cL_law 328 = .ok (.iconst 0, 1) := by decide +kernel
theorem dL_law_329 : decode cL_law 329 = .ok (.istore 17, 2) := by decide +kernel
theorem dL_law_331 : decode cL_law 331 = .ok (.iconst 0, 1) := by decide +kernel
theorem dL_law_332 : decode cL_law 332 = .ok (.istore 18, 2) := by decide +kernel
theorem dL_law_334 : decode cL_law 334 = .ok (.iload 18, 2) := by decide +kernel
theorem dL_law_336 : decode cL_law 336 = .ok (.iload 6, 2) := by decide +kernel
theorem dL_law_338 : decode cL_law 338 = .ok (.if_icmp .ge 268, 3) := by decide +kernel
theorem dL_law_341 : decode cL_law 341 = .ok (.aload_n 1, 1) := by decide +kernel
theorem dL_law_342 : decode cL_law 342 = .ok (.iload 14, 2) := by decide +kernel
theorem dL_law_344 : decode cL_law 344 = .ok (.iload 18, 2) := by decide +kernel
theorem dL_law_346 : decode cL_law 346 = .ok (.invokevirtual 209, 3) := by decide +kernel
theorem dL_law_349 : decode cL_law 349 = .ok (.istore 19, 2) := by decide +kernel
theorem dL_law_351 : decode cL_law 351 = .ok (.iload 15, 2) := by decide +kernel
theorem dL_law_353 : decode cL_law 353 = .ok (.aload_n 1, 1) := by decide +kernel
theorem dL_law_354 : decode cL_law 354 = .ok (.iload 18, 2) := by decide +kernel
theorem dL_law_356 : decode cL_law 356 = .ok (.invokevirtual 192, 3) := by decide +kernel
theorem dL_law_359 : decode cL_law 359 = .ok (.invokestatic 212, 3) := by decide +kernel
theorem dL_law_362 : decode cL_law 362 = .ok (.istore 20, 2) := by decide +kernel
theorem dL_law_364 : decode cL_law 364 = .ok (.aload_n 1, 1) := by decide +kernel
theorem dL_law_365 : decode cL_law 365 = .ok (.iload 14, 2) := by decide +kernel
theorem dL_law_367 : decode cL_law 367 = .ok (.iconst 0, 1) := by decide +kernel
theorem dL_law_368 : decode cL_law 368 = .ok (.invokevirtual 195, 3) := by decide +kernel
theorem dL_law_371 : decode cL_law 371 = .ok (.aload_n 1, 1) := by decide +kernel
theorem dL_law_372 : decode cL_law 372 = .ok (.iload 18, 2) := by decide +kernel
theorem dL_law_374 : decode cL_law 374 = .ok (.iconst 0, 1) := by decide +kernel
theorem dL_law_375 : decode cL_law 375 = .ok (.invokevirtual 195, 3) := by decide +kernel
theorem dL_law_378 : decode cL_law 378 = .ok (.invokestatic 217, 3) := by decide +kernel
theorem dL_law_381 : decode cL_law 381 = .ok (.istore 21, 2) := by decide +kernel
theorem dL_law_383 : decode cL_law 383 = .ok (.iload 20, 2) := by decide +kernel
theorem dL_law_385 : decode cL_law 385 = .ok (.iconst 1, 1) := by decide +kernel
theorem dL_law_386 : decode cL_law 386 = .ok (.if_icmp .le 35, 3) := by decide +kernel
theorem dL_law_389 : decode cL_law 389 = .ok (.iload 21, 2) := by decide +kernel
theorem dL_law_391 : decode cL_law 391 = .ok (.aload_n 1, 1) := by decide +kernel
theorem dL_law_392 : decode cL_law 392 = .ok (.iload 14, 2) := by decide +kernel
theorem dL_law_394 : decode cL_law 394 = .ok (.iload 15, 2) := by decide +kernel
theorem dL_law_396 : decode cL_law 396 = .ok (.iconst 1, 1) := by decide +kernel
theorem dL_law_397 : decode cL_law 397 = .ok (.isub, 1) := by decide +kernel
theorem dL_law_398 : decode cL_law 398 = .ok (.invokevirtual 195, 3) := by decide +kernel
theorem dL_law_401 : decode cL_law 401 = .ok (.aload_n 1, 1) := by decide +kernel
theorem dL_law_402 : decode cL_law 402 = .ok (.iload 18, 2) := by decide +kernel
theorem dL_law_404 : decode cL_law 404 = .ok (.aload_n 1, 1) := by decide +kernel
theorem dL_law_405 : decode cL_law 405 = .ok (.iload 18, 2) := by decide +kernel
theorem dL_law_407 : decode cL_law 407 = .ok (.invokevirtual 192, 3) := by decide +kernel
theorem dL_law_410 : decode cL_law 410 = .ok (.iconst 1, 1) := by decide +kernel
theorem dL_law_411 : decode cL_law 411 = .ok (.isub, 1) := by decide +kernel
theorem dL_law_412 : decode cL_law 412 = .ok (.invokevirtual 195, 3) := by decide +kernel
theorem dL_law_415 : decode cL_law 415 = .ok (.invokestatic 217, 3) := by decide +kernel
theorem dL_law_418 : decode cL_law 418 = .ok (.iadd, 1) := by decide +kernel
theorem dL_law_419 : decode cL_law 419 = .ok (.istore 21, 2) := by decide +kernel
theorem dL_law_421 : decode cL_law 421 = .ok (.iload 19, 2) := by decide +kernel
theorem dL_law_423 : decode cL_law 423 = .ok (.aload_n 1, 1) := by decide +kernel
theorem dL_law_424 : decode cL_law 424 = .ok (.iload 18, 2) := by decide +kernel
theorem dL_law_426 : decode cL_law 426 = .ok (.iload 14, 2) := by decide +kernel
theorem dL_law_428 : decode cL_law 428 = .ok (.invokevirtual 209, 3) := by decide +kernel
theorem dL_law_431 : decode cL_law 431 = .ok (.if_icmp .ne 82, 3) := by decide +kernel
theorem dL_law_434 : decode cL_law 434 = .ok (.iload 19, 2) := by decide +kernel
theorem dL_law_436 : decode cL_law 436 = .ok (.iload 21, 2) := by decide +kernel
theorem dL_law_438 : decode cL_law 438 = .ok (.if_icmp .lt 75, 3) := by decide +kernel
theorem dL_law_441 : decode cL_law 441 = .ok (.iload 14, 2) := by decide +kernel
theorem dL_law_443 : decode cL_law 443 = .ok (.iload 18, 2) := by decide +kernel
theorem dL_law_445 : decode cL_law 445 = .ok (.if_icmp .ne 8, 3) := by decide +kernel
theorem dL_law_448 : decode cL_law 448 = .ok (.iload 19, 2) := by decide +kernel
theorem dL_law_450 : decode cL_law 450 = .ok (.ifCond .ne 63, 3) := by decide +kernel
theorem dL_law_453 : decode cL_law 453 = .ok (.aload_n 1, 1) := by decide +kernel
theorem dL_law_454 : decode cL_law 454 = .ok (.iload 14, 2) := by decide +kernel
theorem dL_law_456 : decode cL_law 456 = .ok (.iload 18, 2) := by decide +kernel
theorem dL_law_458 : decode cL_law 458 = .ok (.invokevirtual 220, 3) := by decide +kernel
theorem dL_law_461 : decode cL_law 461 = .ok (.iload 15, 2) := by decide +kernel
theorem dL_law_463 : decode cL_law 463 = .ok (.aload_n 1, 1) := by decide +kernel
theorem dL_law_464 : decode cL_law 464 = .ok (.iload 18, 2) := by decide +kernel
theorem dL_law_466 : decode cL_law 466 = .ok (.invokevirtual 192, 3) := by decide +kernel
theorem dL_law_469 : decode cL_law 469 = .ok (.iadd, 1) := by decide +kernel
theorem dL_law_470 : decode cL_law 470 = .ok (.iconst 1, 1) := by decide +kernel
theorem dL_law_471 : decode cL_law 471 = .ok (.isub, 1) := by decide +kernel
theorem dL_law_472 : decode cL_law 472 = .ok (.if_icmp .gt 41, 3) := by decide +kernel
theorem dL_law_475 : decode cL_law 475 = .ok (.aload_n 1, 1) := by decide +kernel
theorem dL_law_476 : decode cL_law 476 = .ok (.iload 14, 2) := by decide +kernel
theorem dL_law_478 : decode cL_law 478 = .ok (.iload 18, 2) := by decide +kernel
theorem dL_law_480 : decode cL_law 480 = .ok (.invokevirtual 223, 3) := by decide +kernel
theorem dL_law_483 : decode cL_law 483 = .ok (.iload 14, 2) := by decide +kernel
theorem dL_law_485 : decode cL_law 485 = .ok (.iload 18, 2) := by decide +kernel
theorem dL_law_487 : decode cL_law 487 = .ok (.if_icmp .eq 22, 3) := by decide +kernel
theorem dL_law_490 : decode cL_law 490 = .ok (.iload 19, 2) := by decide +kernel
theorem dL_law_492 : decode cL_law 492 = .ok (.aload 5, 2) := by decide +kernel
theorem dL_law_494 : decode cL_law 494 = .ok (.getfield 89, 3) := by decide +kernel
theorem dL_law_497 : decode cL_law 497 = .ok (.iload 20, 2) := by decide +kernel
theorem dL_law_499 : decode cL_law 499 = .ok (.imul, 1) := by decide +kernel
theorem dL_law_500 : decode cL_law 500 = .ok (.iconst 4, 1) := by decide +kernel
theorem dL_law_501 : decode cL_law 501 = .ok (.idiv, 1) := by decide +kernel
theorem dL_law_502 : decode cL_law 502 = .ok (.if_icmp .ge 7, 3) := by decide +kernel
theorem dL_law_505 : decode cL_law 505 = .ok (.iconst 1, 1) := by decide +kernel
theorem dL_law_506 : decode cL_law 506 = .ok (.goto 4, 3) := by decide +kernel
theorem dL_law_509 : decode cL_law 509 = .ok (.iconst 0, 1) := by decide +kernel
theorem dL_law_510 : decode cL_law 510 = .ok (.if_icmp .eq 5, 3) := by decide +kernel
theorem dL_law_513 : decode cL_law 513 = .ok (.iconst 0, 1) := by decide +kernel
theorem dL_law_514 : decode cL_law 514 = .ok (.ireturn, 1) := by decide +kernel
theorem dL_law_515 : decode cL_law 515 = .ok (.iload 14, 2) := by decide +kernel
theorem dL_law_517 : decode cL_law 517 = .ok (.iload 18, 2) := by decide +kernel
theorem dL_law_519 : decode cL_law 519 = .ok (.if_icmp .eq 44, 3) := by decide +kernel
theorem dL_law_522 : decode cL_law 522 = .ok (.iload 6, 2) := by decide +kernel
theorem dL_law_524 : decode cL_law 524 = .ok (.iconst 1, 1) := by decide +kernel
theorem dL_law_525 : decode cL_law 525 = .ok (.if_icmp .le 38, 3) := by decide +kernel
theorem dL_law_528 : decode cL_law 528 = .ok (.iload 19, 2) := by decide +kernel
theorem dL_law_530 : decode cL_law 530 = .ok (.aload_n 1, 1) := by decide +kernel
theorem dL_law_531 : decode cL_law 531 = .ok (.iload 14, 2) := by decide +kernel
theorem dL_law_533 : decode cL_law 533 = .ok (.iload 16, 2) := by decide +kernel
theorem dL_law_535 : decode cL_law 535 = .ok (.invokevirtual 209, 3) := by decide +kernel
theorem dL_law_538 : decode cL_law 538 = .ok (.if_icmp .lt 23, 3) := by decide +kernel
theorem dL_law_541 : decode cL_law 541 = .ok (.iload 19, 2) := by decide +kernel
theorem dL_law_543 : decode cL_law 543 = .ok (.aload_n 1, 1) := by decide +kernel
theorem dL_law_544 : decode cL_law 544 = .ok (.iload 14, 2) := by decide +kernel
theorem dL_law_546 : decode cL_law 546 = .ok (.iload 16, 2) := by decide +kernel
theorem dL_law_548 : decode cL_law 548 = .ok (.invokevirtual 209, 3) := by decide +kernel
theorem dL_law_551 : decode cL_law 551 = .ok (.if_icmp .ne 12, 3) := by decide +kernel
theorem dL_law_554 : decode cL_law 554 = .ok (.iload 18, 2) := by decide +kernel
theorem dL_law_556 : decode cL_law 556 = .ok (.iload 16, 2) := by decide +kernel
theorem dL_law_558 : decode cL_law 558 = .ok (.if_icmp .ge 5, 3) := by decide +kernel
theorem dL_law_561 : decode cL_law 561 = .ok (.iconst 0, 1) := by decide +kernel
theorem dL_law_562 : decode cL_law 562 = .ok (.ireturn, 1) := by decide +kernel
theorem dL_law_563 : decode cL_law 563 = .ok (.iload 17, 2) := by decide +kernel
theorem dL_law_565 : decode cL_law 565 = .ok (.iload 18, 2) := by decide +kernel
theorem dL_law_567 : decode cL_law 567 = .ok (.iload 14, 2) := by decide +kernel
theorem dL_law_569 : decode cL_law 569 = .ok (.if_icmp .ge 27, 3) := by decide +kernel
theorem dL_law_572 : decode cL_law 572 = .ok (.aload_n 1, 1) := by decide +kernel
theorem dL_law_573 : decode cL_law 573 = .ok (.iload 18, 2) := by decide +kernel
theorem dL_law_575 : decode cL_law 575 = .ok (.invokevirtual 227, 3) := by decide +kernel
theorem dL_law_578 : decode cL_law 578 = .ok (.ifCond .ne 18, 3) := by decide +kernel
theorem dL_law_581 : decode cL_law 581 = .ok (.aload_n 1, 1) := by decide +kernel
theorem dL_law_582 : decode cL_law 582 = .ok (.iload 14, 2) := by decide +kernel
theorem dL_law_584 : decode cL_law 584 = .ok (.iload 18, 2) := by decide +kernel
theorem dL_law_586 : decode cL_law 586 = .ok (.invokevirtual 223, 3) := by decide +kernel
theorem dL_law_589 : decode cL_law 589 = .ok (.ifCond .eq 7, 3) := by decide +kernel
theorem dL_law_592 : decode cL_law 592 = .ok (.iconst 1, 1) := by decide +kernel
theorem dL_law_593 : decode cL_law 593 = .ok (.goto 4, 3) := by decide +kernel
theorem dL_law_596 : decode cL_law 596 = .ok (.iconst 0, 1) := by decide +kernel
theorem dL_law_597 : decode cL_law 597 = .ok (.ior, 1) := by decide +kernel
theorem dL_law_598 : decode cL_law 598 = .ok (.istore 17, 2) := by decide +kernel
theorem dL_law_600 : decode cL_law 600 = .ok (.iinc 18 1, 3) := by decide +kernel
theorem dL_law_603 : decode cL_law 603 = .ok (.goto (-269), 3) := by decide +kernel
theorem dL_law_606 : decode cL_law 606 = .ok (.aload_n 1, 1) := by decide +kernel
theorem dL_law_607 : decode cL_law 607 = .ok (.iload 14, 2) := by decide +kernel
theorem dL_law_609 : decode cL_law 609 = .ok (.invokevirtual 230, 3) := by decide +kernel
theorem dL_law_612 : decode cL_law 612 = .ok (.iload 17, 2) := by decide +kernel
theorem dL_law_614 : decode cL_law 614 = .ok (.ifCond .eq 16, 3) := by decide +kernel
theorem dL_law_617 : decode cL_law 617 = .ok (.aload_n 1, 1) := by decide +kernel
theorem dL_law_618 : decode cL_law 618 = .ok (.iload 14, 2) := by decide +kernel
theorem dL_law_620 : decode cL_law 620 = .ok (.invokevirtual 227, 3) := by decide +kernel
theorem dL_law_623 : decode cL_law 623 = .ok (.ifCond .ne 7, 3) := by decide +kernel
theorem dL_law_626 : decode cL_law 626 = .ok (.iconst 1, 1) := by decide +kernel
theorem dL_law_627 : decode cL_law 627 = .ok (.goto 4, 3) := by decide +kernel
theorem dL_law_630 : decode cL_law 630 = .ok (.iconst 0, 1) := by decide +kernel
theorem dL_law_631 : decode cL_law 631 = .ok (.if_icmp .eq 5, 3) := by decide +kernel
theorem dL_law_634 : decode cL_law 634 = .ok (.iconst 0, 1) := by decide +kernel
theorem dL_law_635 : decode cL_law 635 = .ok (.ireturn, 1) := by decide +kernel
theorem dL_law_636 : decode cL_law 636 = .ok (.iload 10, 2) := by decide +kernel
theorem dL_law_638 : decode cL_law 638 = .ok (.ifCond .ne 6, 3) := by decide +kernel
theorem dL_law_641 : decode cL_law 641 = .ok (.goto 143, 3) := by decide +kernel
theorem dL_law_644 : decode cL_law 644 = .ok (.aload_n 1, 1) := by decide +kernel
theorem dL_law_645 : decode cL_law 645 = .ok (.iload 14, 2) := by decide +kernel
theorem dL_law_647 : decode cL_law 647 = .ok (.invokevirtual 233, 3) := by decide +kernel
theorem dL_law_650 : decode cL_law 650 = .ok (.istore 18, 2) := by decide +kernel
theorem dL_law_652 : decode cL_law 652 = .ok (.aload_n 1, 1) := by decide +kernel
theorem dL_law_653 : decode cL_law 653 = .ok (.iload 14, 2) := by decide +kernel
theorem dL_law_655 : decode cL_law 655 = .ok (.invokevirtual 236, 3) := by decide +kernel
theorem dL_law_658 : decode cL_law 658 = .ok (.istore 19, 2) := by decide +kernel
theorem dL_law_660 : decode cL_law 660 = .ok (.iload 19, 2) := by decide +kernel
theorem dL_law_662 : decode cL_law 662 = .ok (.iload 15, 2) := by decide +kernel
theorem dL_law_664 : decode cL_law 664 = .ok (.iload 10, 2) := by decide +kernel
theorem dL_law_666 : decode cL_law 666 = .ok (.invokestatic 212, 3) := by decide +kernel
theorem dL_law_669 : decode cL_law 669 = .ok (.if_icmp .lt 43, 3) := by decide +kernel
theorem dL_law_672 : decode cL_law 672 = .ok (.iload 19, 2) := by decide +kernel
theorem dL_law_674 : decode cL_law 674 = .ok (.iload 15, 2) := by decide +kernel
theorem dL_law_676 : decode cL_law 676 = .ok (.iload 10, 2) := by decide +kernel
theorem dL_law_678 : decode cL_law 678 = .ok (.iadd, 1) := by decide +kernel
theorem dL_law_679 : decode cL_law 679 = .ok (.if_icmp .ge 33, 3) := by decide +kernel
theorem dL_law_682 : decode cL_law 682 = .ok (.iload 18, 2) := by decide +kernel
theorem dL_law_684 : decode cL_law 684 = .ok (.ifCond .lt 28, 3) := by decide +kernel
theorem dL_law_687 : decode cL_law 687 = .ok (.aload_n 1, 1) := by decide +kernel
theorem dL_law_688 : decode cL_law 688 = .ok (.iload 14, 2) := by decide +kernel
theorem dL_law_690 : decode cL_law 690 = .ok (.invokevirtual 239, 3) := by decide +kernel
theorem dL_law_693 : decode cL_law 693 = .ok (.ifCond .lt 19, 3) := by decide +kernel
theorem dL_law_696 : decode cL_law 696 = .ok (.aload_n 1, 1) := by decide +kernel
theorem dL_law_697 : decode cL_law 697 = .ok (.iload 14, 2) := by decide +kernel
theorem dL_law_699 : decode cL_law 699 = .ok (.invokevirtual 239, 3) := by decide +kernel
theorem dL_law_702 : decode cL_law 702 = .ok (.iload 15, 2) := by decide +kernel
theorem dL_law_704 : decode cL_law 704 = .ok (.iload 10, 2) := by decide +kernel
theorem dL_law_706 : decode cL_law 706 = .ok (.iadd, 1) := by decide +kernel
theorem dL_law_707 : decode cL_law 707 = .ok (.iconst 1, 1) := by decide +kernel
theorem dL_law_708 : decode cL_law 708 = .ok (.isub, 1) := by decide +kernel
theorem dL_law_709 : decode cL_law 709 = .ok (.if_icmp .le 5, 3) := by decide +kernel
theorem dL_law_712 : decode cL_law 712 = .ok (.iconst 0, 1) := by decide +kernel
theorem dL_law_713 : decode cL_law 713 = .ok (.ireturn, 1) := by decide +kernel
theorem dL_law_714 : decode cL_law 714 = .ok (.aload_n 1, 1) := by decide +kernel
theorem dL_law_715 : decode cL_law 715 = .ok (.iload 14, 2) := by decide +kernel
theorem dL_law_717 : decode cL_law 717 = .ok (.invokevirtual 227, 3) := by decide +kernel
theorem dL_law_720 : decode cL_law 720 = .ok (.ifCond .eq 6, 3) := by decide +kernel
theorem dL_law_723 : decode cL_law 723 = .ok (.goto 61, 3) := by decide +kernel
theorem dL_law_726 : decode cL_law 726 = .ok (.iload 18, 2) := by decide +kernel
theorem dL_law_728 : decode cL_law 728 = .ok (.aload_n 1, 1) := by decide +kernel
theorem dL_law_729 : decode cL_law 729 = .ok (.iload 11, 2) := by decide +kernel
theorem dL_law_731 : decode cL_law 731 = .ok (.invokevirtual 233, 3) := by decide +kernel
theorem dL_law_734 : decode cL_law 734 = .ok (.if_icmp .lt 21, 3) := by decide +kernel
theorem dL_law_737 : decode cL_law 737 = .ok (.iload 18, 2) := by decide +kernel
theorem dL_law_739 : decode cL_law 739 = .ok (.aload_n 1, 1) := by decide +kernel
theorem dL_law_740 : decode cL_law 740 = .ok (.iload 11, 2) := by decide +kernel
theorem dL_law_742 : decode cL_law 742 = .ok (.invokevirtual 233, 3) := by decide +kernel
theorem dL_law_745 : decode cL_law 745 = .ok (.if_icmp .ne 12, 3) := by decide +kernel
theorem dL_law_748 : decode cL_law 748 = .ok (.iload 14, 2) := by decide +kernel
theorem dL_law_750 : decode cL_law 750 = .ok (.iload 11, 2) := by decide +kernel
theorem dL_law_752 : decode cL_law 752 = .ok (.if_icmp .ge 5, 3) := by decide +kernel
theorem dL_law_755 : decode cL_law 755 = .ok (.iconst 0, 1) := by decide +kernel
theorem dL_law_756 : decode cL_law 756 = .ok (.ireturn, 1) := by decide +kernel
theorem dL_law_757 : decode cL_law 757 = .ok (.iload 14, 2) := by decide +kernel
theorem dL_law_759 : decode cL_law 759 = .ok (.iload 11, 2) := by decide +kernel
theorem dL_law_761 : decode cL_law 761 = .ok (.if_icmp .eq 23, 3) := by decide +kernel
theorem dL_law_764 : decode cL_law 764 = .ok (.iload 13, 2) := by decide +kernel
theorem dL_law_766 : decode cL_law 766 = .ok (.ifCond .lt 14, 3) := by decide +kernel
theorem dL_law_769 : decode cL_law 769 = .ok (.iload 18, 2) := by decide +kernel
theorem dL_law_771 : decode cL_law 771 = .ok (.aload_n 1, 1) := by decide +kernel
theorem dL_law_772 : decode cL_law 772 = .ok (.iload 13, 2) := by decide +kernel
theorem dL_law_774 : decode cL_law 774 = .ok (.invokevirtual 233, 3) := by decide +kernel
theorem dL_law_777 : decode cL_law 777 = .ok (.if_icmp .ge 7, 3) := by decide +kernel
theorem dL_law_780 : decode cL_law 780 = .ok (.iload 14, 2) := by decide +kernel
theorem dL_law_782 : decode cL_law 782 = .ok (.istore 13, 2) := by decide +kernel
theorem dL_law_784 : decode cL_law 784 = .ok (.iinc 14 1, 3) := by decide +kernel
theorem dL_law_787 : decode cL_law 787 = .ok (.goto (-572), 3) := by decide +kernel
theorem dL_law_790 : decode cL_law 790 = .ok (.iload 11, 2) := by decide +kernel
theorem dL_law_792 : decode cL_law 792 = .ok (.ifCond .lt 32, 3) := by decide +kernel
theorem dL_law_795 : decode cL_law 795 = .ok (.iload 12, 2) := by decide +kernel
theorem dL_law_797 : decode cL_law 797 = .ok (.iload 13, 2) := by decide +kernel
theorem dL_law_799 : decode cL_law 799 = .ok (.ifCond .ge 7, 3) := by decide +kernel
theorem dL_law_802 : decode cL_law 802 = .ok (.iconst (-1), 1) := by decide +kernel
theorem dL_law_803 : decode cL_law 803 = .ok (.goto 16, 3) := by decide +kernel
theorem dL_law_806 : decode cL_law 806 = .ok (.aload_n 1, 1) := by decide +kernel
theorem dL_law_807 : decode cL_law 807 = .ok (.iload 13, 2) := by decide +kernel
theorem dL_law_809 : decode cL_law 809 = .ok (.invokevirtual 233, 3) := by decide +kernel
theorem dL_law_812 : decode cL_law 812 = .ok (.aload_n 1, 1) := by decide +kernel
theorem dL_law_813 : decode cL_law 813 = .ok (.iload 11, 2) := by decide +kernel
theorem dL_law_815 : decode cL_law 815 = .ok (.invokevirtual 233, 3) := by decide +kernel
theorem dL_law_818 : decode cL_law 818 = .ok (.isub, 1) := by decide +kernel
theorem dL_law_819 : decode cL_law 819 = .ok (.if_icmp .eq 5, 3) := by decide +kernel
theorem dL_law_822 : decode cL_law 822 = .ok (.iconst 0, 1) := by decide +kernel
theorem dL_law_823 : decode cL_law 823 = .ok (.ireturn, 1) := by decide +kernel
theorem dL_law_824 : decode cL_law 824 = .ok (.aload_n 3, 1) := by decide +kernel
theorem dL_law_825 : decode cL_law 825 = .ok (.iload 6, 2) := by decide +kernel
theorem dL_law_827 : decode cL_law 827 = .ok (.invokevirtual 37, 3) := by decide +kernel
theorem dL_law_830 : decode cL_law 830 = .ok (.istore 14, 2) := by decide +kernel
theorem dL_law_832 : decode cL_law 832 = .ok (.iload 10, 2) := by decide +kernel
theorem dL_law_834 : decode cL_law 834 = .ok (.ifCond .le 137, 3) := by decide +kernel
theorem dL_law_837 : decode cL_law 837 = .ok (.aload_n 1, 1) := by decide +kernel
theorem dL_law_838 : decode cL_law 838 = .ok (.iload 14, 2) := by decide +kernel
theorem dL_law_840 : decode cL_law 840 = .ok (.invokevirtual 242, 3) := by decide +kernel
theorem dL_law_843 : decode cL_law 843 = .ok (.istore 15, 2) := by decide +kernel
theorem dL_law_845 : decode cL_law 845 = .ok (.aload_n 3, 1) := by decide +kernel
theorem dL_law_846 : decode cL_law 846 = .ok (.bipush 79, 2) := by decide +kernel
theorem dL_law_848 : decode cL_law 848 = .ok (.invokevirtual 37, 3) := by decide +kernel
theorem dL_law_851 : decode cL_law 851 = .ok (.bipush 39, 2) := by decide +kernel
theorem dL_law_853 : decode cL_law 853 = .ok (.isub, 1) := by decide +kernel
theorem dL_law_854 : decode cL_law 854 = .ok (.istore 16, 2) := by decide +kernel
theorem dL_law_856 : decode cL_law 856 = .ok (.aload 5, 2) := by decide +kernel
theorem dL_law_858 : decode cL_law 858 = .ok (.aload 5, 2) := by decide +kernel
theorem dL_law_860 : decode cL_law 860 = .ok (.getfield 44, 3) := by decide +kernel
theorem dL_law_863 : decode cL_law 863 = .ok (.iload 14, 2) := by decide +kernel
theorem dL_law_865 : decode cL_law 865 = .ok (.aaload, 1) := by decide +kernel
theorem dL_law_866 : decode cL_law 866 = .ok (.aload 5, 2) := by decide +kernel
theorem dL_law_868 : decode cL_law 868 = .ok (.getfield 113, 3) := by decide +kernel
theorem dL_law_871 : decode cL_law 871 = .ok (.iload 15, 2) := by decide +kernel
theorem dL_law_873 : decode cL_law 873 = .ok (.i2l, 1) := by decide +kernel
theorem dL_law_874 : decode cL_law 874 = .ok (.invokestatic 121, 3) := by decide +kernel
theorem dL_law_877 : decode cL_law 877 = .ok (.invokevirtual 245, 3) := by decide +kernel
theorem dL_law_880 : decode cL_law 880 = .ok (.istore 17, 2) := by decide +kernel
theorem dL_law_882 : decode cL_law 882 = .ok (.aload 5, 2) := by decide +kernel
theorem dL_law_884 : decode cL_law 884 = .ok (.aload 5, 2) := by decide +kernel
theorem dL_law_886 : decode cL_law 886 = .ok (.getfield 44, 3) := by decide +kernel
theorem dL_law_889 : decode cL_law 889 = .ok (.iload 14, 2) := by decide +kernel
theorem dL_law_891 : decode cL_law 891 = .ok (.aaload, 1) := by decide +kernel
theorem dL_law_892 : decode cL_law 892 = .ok (.aload 5, 2) := by decide +kernel
theorem dL_law_894 : decode cL_law 894 = .ok (.getfield 113, 3) := by decide +kernel
theorem dL_law_897 : decode cL_law 897 = .ok (.iload 16, 2) := by decide +kernel
theorem dL_law_899 : decode cL_law 899 = .ok (.i2l, 1) := by decide +kernel
theorem dL_law_900 : decode cL_law 900 = .ok (.invokestatic 121, 3) := by decide +kernel
theorem dL_law_903 : decode cL_law 903 = .ok (.invokevirtual 245, 3) := by decide +kernel
theorem dL_law_906 : decode cL_law 906 = .ok (.istore 18, 2) := by decide +kernel
theorem dL_law_908 : decode cL_law 908 = .ok (.iload 15, 2) := by decide +kernel
theorem dL_law_910 : decode cL_law 910 = .ok (.bipush (-39), 2) := by decide +kernel
theorem dL_law_912 : decode cL_law 912 = .ok (.if_icmp .lt 57, 3) := by decide +kernel
theorem dL_law_915 : decode cL_law 915 = .ok (.iload 15, 2) := by decide +kernel
theorem dL_law_917 : decode cL_law 917 = .ok (.bipush 39, 2) := by decide +kernel
theorem dL_law_919 : decode cL_law 919 = .ok (.if_icmp .gt 50, 3) := by decide +kernel
theorem dL_law_922 : decode cL_law 922 = .ok (.iload 18, 2) := by decide +kernel
theorem dL_law_924 : decode cL_law 924 = .ok (.iload 17, 2) := by decide +kernel
theorem dL_law_926 : decode cL_law 926 = .ok (.if_icmp .lt 43, 3) := by decide +kernel
theorem dL_law_929 : decode cL_law 929 = .ok (.iload 18, 2) := by decide +kernel
theorem dL_law_931 : decode cL_law 931 = .ok (.iload 17, 2) := by decide +kernel
theorem dL_law_933 : decode cL_law 933 = .ok (.if_icmp .ne 38, 3) := by decide +kernel
theorem dL_law_936 : decode cL_law 936 = .ok (.iload 16, 2) := by decide +kernel
theorem dL_law_938 : decode cL_law 938 = .ok (.invokestatic 249, 3) := by decide +kernel
theorem dL_law_941 : decode cL_law 941 = .ok (.iload 15, 2) := by decide +kernel
theorem dL_law_943 : decode cL_law 943 = .ok (.invokestatic 249, 3) := by decide +kernel
theorem dL_law_946 : decode cL_law 946 = .ok (.if_icmp .lt 23, 3) := by decide +kernel
theorem dL_law_949 : decode cL_law 949 = .ok (.iload 16, 2) := by decide +kernel
theorem dL_law_951 : decode cL_law 951 = .ok (.invokestatic 249, 3) := by decide +kernel
theorem dL_law_954 : decode cL_law 954 = .ok (.iload 15, 2) := by decide +kernel
theorem dL_law_956 : decode cL_law 956 = .ok (.invokestatic 249, 3) := by decide +kernel
theorem dL_law_959 : decode cL_law 959 = .ok (.if_icmp .ne 12, 3) := by decide +kernel
theorem dL_law_962 : decode cL_law 962 = .ok (.iload 16, 2) := by decide +kernel
theorem dL_law_964 : decode cL_law 964 = .ok (.iload 15, 2) := by decide +kernel
theorem dL_law_966 : decode cL_law 966 = .ok (.if_icmp .le 5, 3) := by decide +kernel
theorem dL_law_969 : decode cL_law 969 = .ok (.iconst 0, 1) := by decide +kernel
theorem dL_law_970 : decode cL_law 970 = .ok (.ireturn, 1) := by decide +kernel
theorem dL_law_971 : decode cL_law 971 = .ok (.iconst 1, 1) := by decide +kernel
theorem dL_law_972 : decode cL_law 972 = .ok (.aload_n 3, 1) := by decide +kernel
theorem dL_law_973 : decode cL_law 973 = .ok (.bipush 20, 2) := by decide +kernel
theorem dL_law_975 : decode cL_law 975 = .ok (.invokevirtual 37, 3) := by decide +kernel
theorem dL_law_978 : decode cL_law 978 = .ok (.iadd, 1) := by decide +kernel
theorem dL_law_979 : decode cL_law 979 = .ok (.istore 15, 2) := by decide +kernel
theorem dL_law_981 : decode cL_law 981 = .ok (.aload_n 1, 1) := by decide +kernel
theorem dL_law_982 : decode cL_law 982 = .ok (.iload 15, 2) := by decide +kernel
theorem dL_law_984 : decode cL_law 984 = .ok (.invokevirtual 252, 3) := by decide +kernel
theorem dL_law_987 : decode cL_law 987 = .ok (.istore 16, 2) := by decide +kernel
theorem dL_law_989 : decode cL_law 989 = .ok (.aload_n 1, 1) := by decide +kernel
theorem dL_law_990 : decode cL_law 990 = .ok (.iload 14, 2) := by decide +kernel
theorem dL_law_992 : decode cL_law 992 = .ok (.invokevirtual 255, 3) := by decide +kernel
theorem dL_law_995 : decode cL_law 995 = .ok (.istore 17, 2) := by decide +kernel
theorem dL_law_997 : decode cL_law 997 = .ok (.aload_n 1, 1) := by decide +kernel
theorem dL_law_998 : decode cL_law 998 = .ok (.invokevirtual 176, 3) := by decide +kernel
theorem dL_law_1001 : decode cL_law 1001 = .ok (.lload 8, 2) := by decide +kernel
theorem dL_law_1003 : decode cL_law 1003 = .ok (.lcmp, 1) := by decide +kernel
theorem dL_law_1004 : decode cL_law 1004 = .ok (.ifCond .ne 35, 3) := by decide +kernel
theorem dL_law_1007 : decode cL_law 1007 = .ok (.iload 17, 2) := by decide +kernel
theorem dL_law_1009 : decode cL_law 1009 = .ok (.bipush 20, 2) := by decide +kernel
theorem dL_law_1011 : decode cL_law 1011 = .ok (.if_icmp .gt 28, 3) := by decide +kernel
theorem dL_law_1014 : decode cL_law 1014 = .ok (.iload 17, 2) := by decide +kernel
theorem dL_law_1016 : decode cL_law 1016 = .ok (.ifCond .ne 7, 3) := by decide +kernel
theorem dL_law_1019 : decode cL_law 1019 = .ok (.iconst 1, 1) := by decide +kernel
theorem dL_law_1020 : decode cL_law 1020 = .ok (.goto 4, 3) := by decide +kernel
theorem dL_law_1023 : decode cL_law 1023 = .ok (.iconst 0, 1) := by decide +kernel
theorem dL_law_1024 : decode cL_law 1024 = .ok (.iload 11, 2) := by decide +kernel
theorem dL_law_1026 : decode cL_law 1026 = .ok (.iload 14, 2) := by decide +kernel
theorem dL_law_1028 : decode cL_law 1028 = .ok (.if_icmp .ne 7, 3) := by decide +kernel
theorem dL_law_1031 : decode cL_law 1031 = .ok (.iconst 1, 1) := by decide +kernel
theorem dL_law_1032 : decode cL_law 1032 = .ok (.goto 4, 3) := by decide +kernel
theorem dL_law_1035 : decode cL_law 1035 = .ok (.iconst 0, 1) := by decide +kernel
theorem dL_law_1036 : decode cL_law 1036 = .ok (.if_icmp .eq 5, 3) := by decide +kernel
theorem dL_law_1039 : decode cL_law 1039 = .ok (.iconst 0, 1) := by decide +kernel
theorem dL_law_1040 : decode cL_law 1040 = .ok (.ireturn, 1) := by decide +kernel
theorem dL_law_1041 : decode cL_law 1041 = .ok (.aload_n 3, 1) := by decide +kernel
theorem dL_law_1042 : decode cL_law 1042 = .ok (.iconst 2, 1) := by decide +kernel
theorem dL_law_1043 : decode cL_law 1043 = .ok (.invokevirtual 37, 3) := by decide +kernel
theorem dL_law_1046 : decode cL_law 1046 = .ok (.ifCond .ne 117, 3) := by decide +kernel
theorem dL_law_1049 : decode cL_law 1049 = .ok (.iload 11, 2) := by decide +kernel
theorem dL_law_1051 : decode cL_law 1051 = .ok (.iload 14, 2) := by decide +kernel
theorem dL_law_1053 : decode cL_law 1053 = .ok (.if_icmp .ne 7, 3) := by decide +kernel
theorem dL_law_1056 : decode cL_law 1056 = .ok (.iconst 1, 1) := by decide +kernel
theorem dL_law_1057 : decode cL_law 1057 = .ok (.goto 4, 3) := by decide +kernel
theorem dL_law_1060 : decode cL_law 1060 = .ok (.iconst 0, 1) := by decide +kernel
theorem dL_law_1061 : decode cL_law 1061 = .ok (.istore 18, 2) := by decide +kernel
theorem dL_law_1063 : decode cL_law 1063 = .ok (.iconst 1, 1) := by decide +kernel
theorem dL_law_1064 : decode cL_law 1064 = .ok (.istore 19, 2) := by decide +kernel
theorem dL_law_1066 : decode cL_law 1066 = .ok (.iload 19, 2) := by decide +kernel
theorem dL_law_1068 : decode cL_law 1068 = .ok (.iload 15, 2) := by decide +kernel
theorem dL_law_1070 : decode cL_law 1070 = .ok (.if_icmp .gt 79, 3) := by decide +kernel
theorem dL_law_1073 : decode cL_law 1073 = .ok (.aload_n 1, 1) := by decide +kernel
theorem dL_law_1074 : decode cL_law 1074 = .ok (.iconst 1, 1) := by decide +kernel
theorem dL_law_1075 : decode cL_law 1075 = .ok (.invokevirtual 107, 3) := by decide +kernel
theorem dL_law_1078 : decode cL_law 1078 = .ok (.aload 5, 2) := by decide +kernel
theorem dL_law_1080 : decode cL_law 1080 = .ok (.invokevirtual 258, 3) := by decide +kernel
theorem dL_law_1083 : decode cL_law 1083 = .ok (.if_icmp .eq 5, 3) := by decide +kernel
theorem dL_law_1086 : decode cL_law 1086 = .ok (.iconst 0, 1) := by decide +kernel
theorem dL_law_1087 : decode cL_law 1087 = .ok (.ireturn, 1) := by decide +kernel
theorem dL_law_1088 : decode cL_law 1088 = .ok (.iload 18, 2) := by decide +kernel
theorem dL_law_1090 : decode cL_law 1090 = .ok (.ifCond .ne 34, 3) := by decide +kernel
theorem dL_law_1093 : decode cL_law 1093 = .ok (.aload_n 1, 1) := by decide +kernel
theorem dL_law_1094 : decode cL_law 1094 = .ok (.invokestatic 183, 3) := by decide +kernel
theorem dL_law_1097 : decode cL_law 1097 = .ok (.iload 14, 2) := by decide +kernel
theorem dL_law_1099 : decode cL_law 1099 = .ok (.if_icmp .ne 7, 3) := by decide +kernel
theorem dL_law_1102 : decode cL_law 1102 = .ok (.iconst 1, 1) := by decide +kernel
theorem dL_law_1103 : decode cL_law 1103 = .ok (.goto 4, 3) := by decide +kernel
theorem dL_law_1106 : decode cL_law 1106 = .ok (.iconst 0, 1) := by decide +kernel
theorem dL_law_1107 : decode cL_law 1107 = .ok (.iload 17, 2) := by decide +kernel
theorem dL_law_1109 : decode cL_law 1109 = .ok (.iload 19, 2) := by decide +kernel
theorem dL_law_1111 : decode cL_law 1111 = .ok (.if_icmp .ne 7, 3) := by decide +kernel
theorem dL_law_1114 : decode cL_law 1114 = .ok (.iconst 1, 1) := by decide +kernel
theorem dL_law_1115 : decode cL_law 1115 = .ok (.goto 4, 3) := by decide +kernel
theorem dL_law_1118 : decode cL_law 1118 = .ok (.iconst 0, 1) := by decide +kernel
theorem dL_law_1119 : decode cL_law 1119 = .ok (.if_icmp .eq 5, 3) := by decide +kernel
theorem dL_law_1122 : decode cL_law 1122 = .ok (.iconst 0, 1) := by decide +kernel
theorem dL_law_1123 : decode cL_law 1123 = .ok (.ireturn, 1) := by decide +kernel
theorem dL_law_1124 : decode cL_law 1124 = .ok (.iload 18, 2) := by decide +kernel
theorem dL_law_1126 : decode cL_law 1126 = .ok (.aload_n 1, 1) := by decide +kernel
theorem dL_law_1127 : decode cL_law 1127 = .ok (.invokestatic 183, 3) := by decide +kernel
theorem dL_law_1130 : decode cL_law 1130 = .ok (.iload 14, 2) := by decide +kernel
theorem dL_law_1132 : decode cL_law 1132 = .ok (.if_icmp .ne 7, 3) := by decide +kernel
theorem dL_law_1135 : decode cL_law 1135 = .ok (.iconst 1, 1) := by decide +kernel
theorem dL_law_1136 : decode cL_law 1136 = .ok (.goto 4, 3) := by decide +kernel
theorem dL_law_1139 : decode cL_law 1139 = .ok (.iconst 0, 1) := by decide +kernel
theorem dL_law_1140 : decode cL_law 1140 = .ok (.ior, 1) := by decide +kernel
theorem dL_law_1141 : decode cL_law 1141 = .ok (.istore 18, 2) := by decide +kernel
theorem dL_law_1143 : decode cL_law 1143 = .ok (.iinc 19 1, 3) := by decide +kernel
theorem dL_law_1146 : decode cL_law 1146 = .ok (.goto (-80), 3) := by decide +kernel
theorem dL_law_1149 : decode cL_law 1149 = .ok (.aload_n 1, 1) := by decide +kernel
theorem dL_law_1150 : decode cL_law 1150 = .ok (.invokevirtual 189, 3) := by decide +kernel
theorem dL_law_1153 : decode cL_law 1153 = .ok (.iload 16, 2) := by decide +kernel
theorem dL_law_1155 : decode cL_law 1155 = .ok (.if_icmp .eq 5, 3) := by decide +kernel
theorem dL_law_1158 : decode cL_law 1158 = .ok (.iconst 0, 1) := by decide +kernel
theorem dL_law_1159 : decode cL_law 1159 = .ok (.ireturn, 1) := by decide +kernel
theorem dL_law_1160 : decode cL_law 1160 = .ok (.goto 70, 3) := by decide +kernel
theorem dL_law_1163 : decode cL_law 1163 = .ok (.aload_n 1, 1) := by decide +kernel
theorem dL_law_1164 : decode cL_law 1164 = .ok (.invokevirtual 189, 3) := by decide +kernel
theorem dL_law_1167 : decode cL_law 1167 = .ok (.istore 18, 2) := by decide +kernel
theorem dL_law_1169 : decode cL_law 1169 = .ok (.aload_n 1, 1) := by decide +kernel
theorem dL_law_1170 : decode cL_law 1170 = .ok (.invokevirtual 139, 3) := by decide +kernel
theorem dL_law_1173 : decode cL_law 1173 = .ok (.istore 19, 2) := by decide +kernel
theorem dL_law_1175 : decode cL_law 1175 = .ok (.aload_n 1, 1) := by decide +kernel
theorem dL_law_1176 : decode cL_law 1176 = .ok (.invokevirtual 189, 3) := by decide +kernel
theorem dL_law_1179 : decode cL_law 1179 = .ok (.iload 18, 2) := by decide +kernel
theorem dL_law_1181 : decode cL_law 1181 = .ok (.iload 19, 2) := by decide +kernel
theorem dL_law_1183 : decode cL_law 1183 = .ok (.isub, 1) := by decide +kernel
theorem dL_law_1184 : decode cL_law 1184 = .ok (.if_icmp .eq 5, 3) := by decide +kernel
theorem dL_law_1187 : decode cL_law 1187 = .ok (.iconst 0, 1) := by decide +kernel
theorem dL_law_1188 : decode cL_law 1188 = .ok (.ireturn, 1) := by decide +kernel
theorem dL_law_1189 : decode cL_law 1189 = .ok (.iconst 0, 1) := by decide +kernel
theorem dL_law_1190 : decode cL_law 1190 = .ok (.istore 20, 2) := by decide +kernel
theorem dL_law_1192 : decode cL_law 1192 = .ok (.iload 20, 2) := by decide +kernel
theorem dL_law_1194 : decode cL_law 1194 = .ok (.iload 6, 2) := by decide +kernel
theorem dL_law_1196 : decode cL_law 1196 = .ok (.if_icmp .ge 34, 3) := by decide +kernel
theorem dL_law_1199 : decode cL_law 1199 = .ok (.aload_n 1, 1) := by decide +kernel
theorem dL_law_1200 : decode cL_law 1200 = .ok (.iload 20, 2) := by decide +kernel
theorem dL_law_1202 : decode cL_law 1202 = .ok (.invokevirtual 230, 3) := by decide +kernel
theorem dL_law_1205 : decode cL_law 1205 = .ok (.ifCond .eq 5, 3) := by decide +kernel
theorem dL_law_1208 : decode cL_law 1208 = .ok (.iconst 0, 1) := by decide +kernel
theorem dL_law_1209 : decode cL_law 1209 = .ok (.ireturn, 1) := by decide +kernel
theorem dL_law_1210 : decode cL_law 1210 = .ok (.aload 5, 2) := by decide +kernel
theorem dL_law_1212 : decode cL_law 1212 = .ok (.getfield 48, 3) := by decide +kernel
theorem dL_law_1215 : decode cL_law 1215 = .ok (.iload 20, 2) := by decide +kernel
theorem dL_law_1217 : decode cL_law 1217 = .ok (.aload_n 1, 1) := by decide +kernel
theorem dL_law_1218 : decode cL_law 1218 = .ok (.iload 20, 2) := by decide +kernel
theorem dL_law_1220 : decode cL_law 1220 = .ok (.invokevirtual 227, 3) := by decide +kernel
theorem dL_law_1223 : decode cL_law 1223 = .ok (.bastore, 1) := by decide +kernel
theorem dL_law_1224 : decode cL_law 1224 = .ok (.iinc 20 1, 3) := by decide +kernel
theorem dL_law_1227 : decode cL_law 1227 = .ok (.goto (-35), 3) := by decide +kernel
theorem dL_law_1230 : decode cL_law 1230 = .ok (.iinc 7 1, 3) := by decide +kernel
theorem dL_law_1233 : decode cL_law 1233 = .ok (.goto (-1139), 3) := by decide +kernel
theorem dL_law_1236 : decode cL_law 1236 = .ok (.aload 5, 2) := by decide +kernel
theorem dL_law_1238 : decode cL_law 1238 = .ok (.aload_n 1, 1) := by decide +kernel
theorem dL_law_1239 : decode cL_law 1239 = .ok (.invokevirtual 260, 3) := by decide +kernel
theorem dL_law_1242 : decode cL_law 1242 = .ok (.ifCond .ne 5, 3) := by decide +kernel
theorem dL_law_1245 : decode cL_law 1245 = .ok (.iconst 0, 1) := by decide +kernel
theorem dL_law_1246 : decode cL_law 1246 = .ok (.ireturn, 1) := by decide +kernel
theorem dL_law_1247 : decode cL_law 1247 = .ok (.iinc 2 1, 3) := by decide +kernel
theorem dL_law_1250 : decode cL_law 1250 = .ok (.goto (-1240), 3) := by decide +kernel
theorem dL_law_1253 : decode cL_law 1253 = .ok (.iconst 1, 1) := by decide +kernel
theorem dL_law_1254 : decode cL_law 1254 = .ok (.ireturn, 1) := by decide +kernel
