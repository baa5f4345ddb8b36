theorem dX13_init_0 : decode cX13_init 0 = .ok (.aload_n 0, 1) := by decide +kernel
theorem dX13_init_1 : decode cX13_init 1 = .ok (.invokespecial 3, 3) := by decide +kernel
theorem dX13_init_4 : decode cX13_init 4 = .ok (.aload_n 0, 1) := by decide +kernel
theorem dX13_init_5 : decode cX13_init 5 = .ok (.bipush 10, 2) := by decide +kernel
theorem dX13_init_7 : decode cX13_init 7 = .ok (.newarray .int, 2) := by decide +kernel
theorem dX13_init_9 : decode cX13_init 9 = .ok (.putfield 9, 3) := by decide +kernel
theorem dX13_init_12 : decode cX13_init 12 = .ok (.aload_n 0, 1) := by decide +kernel
theorem dX13_init_13 : decode cX13_init 13 = .ok (.sipush 240, 3) := by decide +kernel
theorem dX13_init_16 : decode cX13_init 16 = .ok (.newarray .int, 2) := by decide +kernel
theorem dX13_init_18 : decode cX13_init 18 = .ok (.putfield 15, 3) := by decide +kernel
theorem dX13_init_21 : decode cX13_init 21 = .ok (.aload_n 0, 1) := by decide +kernel
theorem dX13_init_22 : decode cX13_init 22 = .ok (.bipush 8, 2) := by decide +kernel
theorem dX13_init_24 : decode cX13_init 24 = .ok (.newarray .int, 2) := by decide +kernel
theorem dX13_init_26 : decode cX13_init 26 = .ok (.putfield 18, 3) := by decide +kernel
theorem dX13_init_29 : decode cX13_init 29 = .ok (.return_, 1) := by decide +kernel
theorem dX13_begin_0 : decode cX13_begin 0 = .ok (.aload_n 1, 1) := by decide +kernel
theorem dX13_begin_1 : decode cX13_begin 1 = .ok (.getfield 21, 3) := by decide +kernel
theorem dX13_begin_4 : decode cX13_begin 4 = .ok (.aload_n 0, 1) := by decide +kernel
theorem dX13_begin_5 : decode cX13_begin 5 = .ok (.getfield 9, 3) := by decide +kernel
theorem dX13_begin_8 : decode cX13_begin 8 = .ok (.invokestatic 24, 3) := by decide +kernel
theorem dX13_begin_11 : decode cX13_begin 11 = .ok (.aload_n 1, 1) := by decide +kernel
theorem dX13_begin_12 : decode cX13_begin 12 = .ok (.getfield 28, 3) := by decide +kernel
theorem dX13_begin_15 : decode cX13_begin 15 = .ok (.aload_n 0, 1) := by decide +kernel
theorem dX13_begin_16 : decode cX13_begin 16 = .ok (.getfield 15, 3) := by decide +kernel
theorem dX13_begin_19 : decode cX13_begin 19 = .ok (.invokestatic 24, 3) := by decide +kernel
theorem dX13_begin_22 : decode cX13_begin 22 = .ok (.iconst 0, 1) := by decide +kernel
theorem dX13_begin_23 : decode cX13_begin 23 = .ok (.istore_n 2, 1) := by decide +kernel
theorem dX13_begin_24 : decode cX13_begin 24 = .ok (.iload_n 2, 1) := by decide +kernel
theorem dX13_begin_25 : decode cX13_begin 25 = .ok (.bipush 8, 2) := by decide +kernel
theorem dX13_begin_27 : decode cX13_begin 27 = .ok (.if_icmp .ge 16, 3) := by decide +kernel
theorem dX13_begin_30 : decode cX13_begin 30 = .ok (.aload_n 0, 1) := by decide +kernel
theorem dX13_begin_31 : decode cX13_begin 31 = .ok (.getfield 18, 3) := by decide +kernel
theorem dX13_begin_34 : decode cX13_begin 34 = .ok (.iload_n 2, 1) := by decide +kernel
theorem dX13_begin_35 : decode cX13_begin 35 = .ok (.iconst 0, 1) := by decide +kernel
theorem dX13_begin_36 : decode cX13_begin 36 = .ok (.iastore, 1) := by decide +kernel
theorem dX13_begin_37 : decode cX13_begin 37 = .ok (.iinc 2 1, 3) := by decide +kernel
theorem dX13_begin_40 : decode cX13_begin 40 = .ok (.goto (-16), 3) := by decide +kernel
theorem dX13_begin_43 : decode cX13_begin 43 = .ok (.aload_n 0, 1) := by decide +kernel
theorem dX13_begin_44 : decode cX13_begin 44 = .ok (.getfield 9, 3) := by decide +kernel
theorem dX13_begin_47 : decode cX13_begin 47 = .ok (.bipush 8, 2) := by decide +kernel
theorem dX13_begin_49 : decode cX13_begin 49 = .ok (.iconst 0, 1) := by decide +kernel
theorem dX13_begin_50 : decode cX13_begin 50 = .ok (.iastore, 1) := by decide +kernel
theorem dX13_begin_51 : decode cX13_begin 51 = .ok (.aload_n 0, 1) := by decide +kernel
theorem dX13_begin_52 : decode cX13_begin 52 = .ok (.iconst 0, 1) := by decide +kernel
theorem dX13_begin_53 : decode cX13_begin 53 = .ok (.putfield 29, 3) := by decide +kernel
theorem dX13_begin_56 : decode cX13_begin 56 = .ok (.aload_n 0, 1) := by decide +kernel
theorem dX13_begin_57 : decode cX13_begin 57 = .ok (.iconst 0, 1) := by decide +kernel
theorem dX13_begin_58 : decode cX13_begin 58 = .ok (.putfield 33, 3) := by decide +kernel
theorem dX13_begin_61 : decode cX13_begin 61 = .ok (.return_, 1) := by decide +kernel
theorem dX13_become_0 : decode cX13_become 0 = .ok (.aload_n 1, 1) := by decide +kernel
theorem dX13_become_1 : decode cX13_become 1 = .ok (.getfield 9, 3) := by decide +kernel
theorem dX13_become_4 : decode cX13_become 4 = .ok (.aload_n 0, 1) := by decide +kernel
theorem dX13_become_5 : decode cX13_become 5 = .ok (.getfield 9, 3) := by decide +kernel
theorem dX13_become_8 : decode cX13_become 8 = .ok (.invokestatic 24, 3) := by decide +kernel
theorem dX13_become_11 : decode cX13_become 11 = .ok (.aload_n 1, 1) := by decide +kernel
theorem dX13_become_12 : decode cX13_become 12 = .ok (.getfield 15, 3) := by decide +kernel
theorem dX13_become_15 : decode cX13_become 15 = .ok (.aload_n 0, 1) := by decide +kernel
theorem dX13_become_16 : decode cX13_become 16 = .ok (.getfield 15, 3) := by decide +kernel
theorem dX13_become_19 : decode cX13_become 19 = .ok (.invokestatic 24, 3) := by decide +kernel
theorem dX13_become_22 : decode cX13_become 22 = .ok (.aload_n 1, 1) := by decide +kernel
theorem dX13_become_23 : decode cX13_become 23 = .ok (.getfield 18, 3) := by decide +kernel
theorem dX13_become_26 : decode cX13_become 26 = .ok (.aload_n 0, 1) := by decide +kernel
theorem dX13_become_27 : decode cX13_become 27 = .ok (.getfield 18, 3) := by decide +kernel
theorem dX13_become_30 : decode cX13_become 30 = .ok (.invokestatic 24, 3) := by decide +kernel
theorem dX13_become_33 : decode cX13_become 33 = .ok (.aload_n 0, 1) := by decide +kernel
theorem dX13_become_34 : decode cX13_become 34 = .ok (.aload_n 1, 1) := by decide +kernel
theorem dX13_become_35 : decode cX13_become 35 = .ok (.getfield 29, 3) := by decide +kernel
theorem dX13_become_38 : decode cX13_become 38 = .ok (.putfield 29, 3) := by decide +kernel
theorem dX13_become_41 : decode cX13_become 41 = .ok (.aload_n 0, 1) := by decide +kernel
theorem dX13_become_42 : decode cX13_become 42 = .ok (.aload_n 1, 1) := by decide +kernel
theorem dX13_become_43 : decode cX13_become 43 = .ok (.getfield 33, 3) := by decide +kernel
theorem dX13_become_46 : decode cX13_become 46 = .ok (.putfield 33, 3) := by decide +kernel
theorem dX13_become_49 : decode cX13_become 49 = .ok (.return_, 1) := by decide +kernel
theorem dX14_init_0 : decode cX14_init 0 = .ok (.aload_n 0, 1) := by decide +kernel
theorem dX14_init_1 : decode cX14_init 1 = .ok (.invokespecial 3, 3) := by decide +kernel
theorem dX14_init_4 : decode cX14_init 4 = .ok (.aload_n 0, 1) := by decide +kernel
theorem dX14_init_5 : decode cX14_init 5 = .ok (.iconst 4, 1) := by decide +kernel
theorem dX14_init_6 : decode cX14_init 6 = .ok (.putfield 9, 3) := by decide +kernel
theorem dX14_init_9 : decode cX14_init 9 = .ok (.aload_n 0, 1) := by decide +kernel
theorem dX14_init_10 : decode cX14_init 10 = .ok (.bipush 6, 2) := by decide +kernel
theorem dX14_init_12 : decode cX14_init 12 = .ok (.putfield 15, 3) := by decide +kernel
theorem dX14_init_15 : decode cX14_init 15 = .ok (.aload_n 0, 1) := by decide +kernel
theorem dX14_init_16 : decode cX14_init 16 = .ok (.bipush 10, 2) := by decide +kernel
theorem dX14_init_18 : decode cX14_init 18 = .ok (.newarray .int, 2) := by decide +kernel
theorem dX14_init_20 : decode cX14_init 20 = .ok (.putfield 18, 3) := by decide +kernel
theorem dX14_init_23 : decode cX14_init 23 = .ok (.aload_n 0, 1) := by decide +kernel
theorem dX14_init_24 : decode cX14_init 24 = .ok (.sipush 240, 3) := by decide +kernel
theorem dX14_init_27 : decode cX14_init 27 = .ok (.newarray .int, 2) := by decide +kernel
theorem dX14_init_29 : decode cX14_init 29 = .ok (.putfield 22, 3) := by decide +kernel
theorem dX14_init_32 : decode cX14_init 32 = .ok (.aload_n 0, 1) := by decide +kernel
theorem dX14_init_33 : decode cX14_init 33 = .ok (.bipush 17, 2) := by decide +kernel
theorem dX14_init_35 : decode cX14_init 35 = .ok (.newarray .int, 2) := by decide +kernel
theorem dX14_init_37 : decode cX14_init 37 = .ok (.putfield 25, 3) := by decide +kernel
theorem dX14_init_40 : decode cX14_init 40 = .ok (.aload_n 0, 1) := by decide +kernel
theorem dX14_init_41 : decode cX14_init 41 = .ok (.bipush 17, 2) := by decide +kernel
theorem dX14_init_43 : decode cX14_init 43 = .ok (.newarray .int, 2) := by decide +kernel
theorem dX14_init_45 : decode cX14_init 45 = .ok (.putfield 28, 3) := by decide +kernel
theorem dX14_init_48 : decode cX14_init 48 = .ok (.aload_n 0, 1) := by decide +kernel
theorem dX14_init_49 : decode cX14_init 49 = .ok (.bipush 17, 2) := by decide +kernel
theorem dX14_init_51 : decode cX14_init 51 = .ok (.newarray .int, 2) := by decide +kernel
theorem dX14_init_53 : decode cX14_init 53 = .ok (.putfield 31, 3) := by decide +kernel
theorem dX14_init_56 : decode cX14_init 56 = .ok (.aload_n 0, 1) := by decide +kernel
theorem dX14_init_57 : decode cX14_init 57 = .ok (.bipush 17, 2) := by decide +kernel
theorem dX14_init_59 : decode cX14_init 59 = .ok (.newarray .int, 2) := by decide +kernel
theorem dX14_init_61 : decode cX14_init 61 = .ok (.putfield 34, 3) := by decide +kernel
theorem dX14_init_64 : decode cX14_init 64 = .ok (.aload_n 0, 1) := by decide +kernel
theorem dX14_init_65 : decode cX14_init 65 = .ok (.bipush 17, 2) := by decide +kernel
theorem dX14_init_67 : decode cX14_init 67 = .ok (.newarray .int, 2) := by decide +kernel
theorem dX14_init_69 : decode cX14_init 69 = .ok (.putfield 37, 3) := by decide +kernel
theorem dX14_init_72 : decode cX14_init 72 = .ok (.aload_n 0, 1) := by decide +kernel
theorem dX14_init_73 : decode cX14_init 73 = .ok (.bipush 17, 2) := by decide +kernel
theorem dX14_init_75 : decode cX14_init 75 = .ok (.newarray .int, 2) := by decide +kernel
theorem dX14_init_77 : decode cX14_init 77 = .ok (.putfield 40, 3) := by decide +kernel
theorem dX14_init_80 : decode cX14_init 80 = .ok (.aload_n 0, 1) := by decide +kernel
theorem dX14_init_81 : decode cX14_init 81 = .ok (.sipush 800, 3) := by decide +kernel
theorem dX14_init_84 : decode cX14_init 84 = .ok (.newarray .int, 2) := by decide +kernel
theorem dX14_init_86 : decode cX14_init 86 = .ok (.putfield 43, 3) := by decide +kernel
theorem dX14_init_89 : decode cX14_init 89 = .ok (.aload_n 0, 1) := by decide +kernel
theorem dX14_init_90 : decode cX14_init 90 = .ok (.sipush 800, 3) := by decide +kernel
theorem dX14_init_93 : decode cX14_init 93 = .ok (.newarray .int, 2) := by decide +kernel
theorem dX14_init_95 : decode cX14_init 95 = .ok (.putfield 46, 3) := by decide +kernel
theorem dX14_init_98 : decode cX14_init 98 = .ok (.aload_n 0, 1) := by decide +kernel
theorem dX14_init_99 : decode cX14_init 99 = .ok (.sipush 800, 3) := by decide +kernel
theorem dX14_init_102 : decode cX14_init 102 = .ok (.newarray .int, 2) := by decide +kernel
theorem dX14_init_104 : decode cX14_init 104 = .ok (.putfield 49, 3) := by decide +kernel
theorem dX14_init_107 : decode cX14_init 107 = .ok (.return_, 1) := by decide +kernel
theorem dX14_begin_0 : decode cX14_begin 0 = .ok (.aload_n 0, 1) := by decide +kernel
theorem dX14_begin_1 : decode cX14_begin 1 = .ok (.iconst 4, 1) := by decide +kernel
theorem dX14_begin_2 : decode cX14_begin 2 = .ok (.putfield 9, 3) := by decide +kernel
theorem dX14_begin_5 : decode cX14_begin 5 = .ok (.aload_n 0, 1) := by decide +kernel
theorem dX14_begin_6 : decode cX14_begin 6 = .ok (.bipush 6, 2) := by decide +kernel
theorem dX14_begin_8 : decode cX14_begin 8 = .ok (.putfield 15, 3) := by decide +kernel
theorem dX14_begin_11 : decode cX14_begin 11 = .ok (.aload_n 0, 1) := by decide +kernel
theorem dX14_begin_12 : decode cX14_begin 12 = .ok (.iconst 0, 1) := by decide +kernel
theorem dX14_begin_13 : decode cX14_begin 13 = .ok (.putfield 52, 3) := by decide +kernel
theorem dX14_begin_16 : decode cX14_begin 16 = .ok (.aload_n 0, 1) := by decide +kernel
theorem dX14_begin_17 : decode cX14_begin 17 = .ok (.iconst 0, 1) := by decide +kernel
theorem dX14_begin_18 : decode cX14_begin 18 = .ok (.putfield 55, 3) := by decide +kernel
theorem dX14_begin_21 : decode cX14_begin 21 = .ok (.aload_n 0, 1) := by decide +kernel
theorem dX14_begin_22 : decode cX14_begin 22 = .ok (.iconst 0, 1) := by decide +kernel
theorem dX14_begin_23 : decode cX14_begin 23 = .ok (.putfield 58, 3) := by decide +kernel
theorem dX14_begin_26 : decode cX14_begin 26 = .ok (.return_, 1) := by decide +kernel
theorem dX14_copy_0 : decode cX14_copy 0 = .ok (.aload_n 0, 1) := by decide +kernel
theorem dX14_copy_1 : decode cX14_copy 1 = .ok (.iconst 0, 1) := by decide +kernel
theorem dX14_copy_2 : decode cX14_copy 2 = .ok (.aload_n 1, 1) := by decide +kernel
theorem dX14_copy_3 : decode cX14_copy 3 = .ok (.iconst 0, 1) := by decide +kernel
theorem dX14_copy_4 : decode cX14_copy 4 = .ok (.aload_n 1, 1) := by decide +kernel
theorem dX14_copy_5 : decode cX14_copy 5 = .ok (.arraylength, 1) := by decide +kernel
theorem dX14_copy_6 : decode cX14_copy 6 = .ok (.invokestatic 61, 3) := by decide +kernel
theorem dX14_copy_9 : decode cX14_copy 9 = .ok (.return_, 1) := by decide +kernel
theorem dX14_become_0 : decode cX14_become 0 = .ok (.aload_n 0, 1) := by decide +kernel
theorem dX14_become_1 : decode cX14_become 1 = .ok (.aload_n 1, 1) := by decide +kernel
theorem dX14_become_2 : decode cX14_become 2 = .ok (.getfield 9, 3) := by decide +kernel
theorem dX14_become_5 : decode cX14_become 5 = .ok (.putfield 9, 3) := by decide +kernel
theorem dX14_become_8 : decode cX14_become 8 = .ok (.aload_n 0, 1) := by decide +kernel
theorem dX14_become_9 : decode cX14_become 9 = .ok (.aload_n 1, 1) := by decide +kernel
theorem dX14_become_10 : decode cX14_become 10 = .ok (.getfield 15, 3) := by decide +kernel
theorem dX14_become_13 : decode cX14_become 13 = .ok (.putfield 15, 3) := by decide +kernel
theorem dX14_become_16 : decode cX14_become 16 = .ok (.aload_n 0, 1) := by decide +kernel
theorem dX14_become_17 : decode cX14_become 17 = .ok (.aload_n 1, 1) := by decide +kernel
theorem dX14_become_18 : decode cX14_become 18 = .ok (.getfield 52, 3) := by decide +kernel
theorem dX14_become_21 : decode cX14_become 21 = .ok (.putfield 52, 3) := by decide +kernel
theorem dX14_become_24 : decode cX14_become 24 = .ok (.aload_n 0, 1) := by decide +kernel
theorem dX14_become_25 : decode cX14_become 25 = .ok (.aload_n 1, 1) := by decide +kernel
theorem dX14_become_26 : decode cX14_become 26 = .ok (.getfield 55, 3) := by decide +kernel
theorem dX14_become_29 : decode cX14_become 29 = .ok (.putfield 55, 3) := by decide +kernel
theorem dX14_become_32 : decode cX14_become 32 = .ok (.aload_n 0, 1) := by decide +kernel
theorem dX14_become_33 : decode cX14_become 33 = .ok (.aload_n 1, 1) := by decide +kernel
theorem dX14_become_34 : decode cX14_become 34 = .ok (.getfield 58, 3) := by decide +kernel
theorem dX14_become_37 : decode cX14_become 37 = .ok (.putfield 58, 3) := by decide +kernel
theorem dX14_become_40 : decode cX14_become 40 = .ok (.aload_n 1, 1) := by decide +kernel
theorem dX14_become_41 : decode cX14_become 41 = .ok (.getfield 18, 3) := by decide +kernel
theorem dX14_become_44 : decode cX14_become 44 = .ok (.aload_n 0, 1) := by decide +kernel
theorem dX14_become_45 : decode cX14_become 45 = .ok (.getfield 18, 3) := by decide +kernel
theorem dX14_become_48 : decode cX14_become 48 = .ok (.invokestatic 67, 3) := by decide +kernel
theorem dX14_become_51 : decode cX14_become 51 = .ok (.aload_n 1, 1) := by decide +kernel
theorem dX14_become_52 : decode cX14_become 52 = .ok (.getfield 22, 3) := by decide +kernel
theorem dX14_become_55 : decode cX14_become 55 = .ok (.aload_n 0, 1) := by decide +kernel
theorem dX14_become_56 : decode cX14_become 56 = .ok (.getfield 22, 3) := by decide +kernel
theorem dX14_become_59 : decode cX14_become 59 = .ok (.invokestatic 67, 3) := by decide +kernel
theorem dX14_become_62 : decode cX14_become 62 = .ok (.aload_n 1, 1) := by decide +kernel
theorem dX14_become_63 : decode cX14_become 63 = .ok (.getfield 25, 3) := by decide +kernel
theorem dX14_become_66 : decode cX14_become 66 = .ok (.aload_n 0, 1) := by decide +kernel
theorem dX14_become_67 : decode cX14_become 67 = .ok (.getfield 25, 3) := by decide +kernel
theorem dX14_become_70 : decode cX14_become 70 = .ok (.invokestatic 67, 3) := by decide +kernel
theorem dX14_become_73 : decode cX14_become 73 = .ok (.aload_n 1, 1) := by decide +kernel
theorem dX14_become_74 : decode cX14_become 74 = .ok (.getfield 28, 3) := by decide +kernel
theorem dX14_become_77 : decode cX14_become 77 = .ok (.aload_n 0, 1) := by decide +kernel
theorem dX14_become_78 : decode cX14_become 78 = .ok (.getfield 28, 3) := by decide +kernel
theorem dX14_become_81 : decode cX14_become 81 = .ok (.invokestatic 67, 3) := by decide +kernel
theorem dX14_become_84 : decode cX14_become 84 = .ok (.aload_n 1, 1) := by decide +kernel
theorem dX14_become_85 : decode cX14_become 85 = .ok (.getfield 31, 3) := by decide +kernel
theorem dX14_become_88 : decode cX14_become 88 = .ok (.aload_n 0, 1) := by decide +kernel
theorem dX14_become_89 : decode cX14_become 89 = .ok (.getfield 31, 3) := by decide +kernel
theorem dX14_become_92 : decode cX14_become 92 = .ok (.invokestatic 67, 3) := by decide +kernel
theorem dX14_become_95 : decode cX14_become 95 = .ok (.aload_n 1, 1) := by decide +kernel
theorem dX14_become_96 : decode cX14_become 96 = .ok (.getfield 34, 3) := by decide +kernel
theorem dX14_become_99 : decode cX14_become 99 = .ok (.aload_n 0, 1) := by decide +kernel
theorem dX14_become_100 : decode cX14_become 100 = .ok (.getfield 34, 3) := by decide +kernel
theorem dX14_become_103 : decode cX14_become 103 = .ok (.invokestatic 67, 3) := by decide +kernel
theorem dX14_become_106 : decode cX14_become 106 = .ok (.aload_n 1, 1) := by decide +kernel
theorem dX14_become_107 : decode cX14_become 107 = .ok (.getfield 37, 3) := by decide +kernel
theorem dX14_become_110 : decode cX14_become 110 = .ok (.aload_n 0, 1) := by decide +kernel
theorem dX14_become_111 : decode cX14_become 111 = .ok (.getfield 37, 3) := by decide +kernel
theorem dX14_become_114 : decode cX14_become 114 = .ok (.invokestatic 67, 3) := by decide +kernel
theorem dX14_become_117 : decode cX14_become 117 = .ok (.aload_n 1, 1) := by decide +kernel
theorem dX14_become_118 : decode cX14_become 118 = .ok (.getfield 40, 3) := by decide +kernel
theorem dX14_become_121 : decode cX14_become 121 = .ok (.aload_n 0, 1) := by decide +kernel
theorem dX14_become_122 : decode cX14_become 122 = .ok (.getfield 40, 3) := by decide +kernel
theorem dX14_become_125 : decode cX14_become 125 = .ok (.invokestatic 67, 3) := by decide +kernel
theorem dX14_become_128 : decode cX14_become 128 = .ok (.aload_n 1, 1) := by decide +kernel
theorem dX14_become_129 : decode cX14_become 129 = .ok (.getfield 43, 3) := by decide +kernel
theorem dX14_become_132 : decode cX14_become 132 = .ok (.aload_n 0, 1) := by decide +kernel
theorem dX14_become_133 : decode cX14_become 133 = .ok (.getfield 43, 3) := by decide +kernel
theorem dX14_become_136 : decode cX14_become 136 = .ok (.invokestatic 67, 3) := by decide +kernel
theorem dX14_become_139 : decode cX14_become 139 = .ok (.aload_n 1, 1) := by decide +kernel
theorem dX14_become_140 : decode cX14_become 140 = .ok (.getfield 46, 3) := by decide +kernel
theorem dX14_become_143 : decode cX14_become 143 = .ok (.aload_n 0, 1) := by decide +kernel
theorem dX14_become_144 : decode cX14_become 144 = .ok (.getfield 46, 3) := by decide +kernel
theorem dX14_become_147 : decode cX14_become 147 = .ok (.invokestatic 67, 3) := by decide +kernel
theorem dX14_become_150 : decode cX14_become 150 = .ok (.aload_n 1, 1) := by decide +kernel
theorem dX14_become_151 : decode cX14_become 151 = .ok (.getfield 49, 3) := by decide +kernel
theorem dX14_become_154 : decode cX14_become 154 = .ok (.aload_n 0, 1) := by decide +kernel
theorem dX14_become_155 : decode cX14_become 155 = .ok (.getfield 49, 3) := by decide +kernel
theorem dX14_become_158 : decode cX14_become 158 = .ok (.invokestatic 67, 3) := by decide +kernel
theorem dX14_become_161 : decode cX14_become 161 = .ok (.return_, 1) := by decide +kernel
theorem dX15_init_0 : decode cX15_init 0 = .ok (.aload_n 0, 1) := by decide +kernel
theorem dX15_init_1 : decode cX15_init 1 = .ok (.invokespecial 3, 3) := by decide +kernel
theorem dX15_init_4 : decode cX15_init 4 = .ok (.aload_n 0, 1) := by decide +kernel
theorem dX15_init_5 : decode cX15_init 5 = .ok (.sipush 2000, 3) := by decide +kernel
theorem dX15_init_8 : decode cX15_init 8 = .ok (.newarray .int, 2) := by decide +kernel
theorem dX15_init_10 : decode cX15_init 10 = .ok (.putfield 9, 3) := by decide +kernel
theorem dX15_init_13 : decode cX15_init 13 = .ok (.aload_n 0, 1) := by decide +kernel
theorem dX15_init_14 : decode cX15_init 14 = .ok (.iconst (-1), 1) := by decide +kernel
theorem dX15_init_15 : decode cX15_init 15 = .ok (.putfield 13, 3) := by decide +kernel
theorem dX15_init_18 : decode cX15_init 18 = .ok (.aload_n 0, 1) := by decide +kernel
theorem dX15_init_19 : decode cX15_init 19 = .ok (.sipush 402, 3) := by decide +kernel
theorem dX15_init_22 : decode cX15_init 22 = .ok (.newarray .int, 2) := by decide +kernel
theorem dX15_init_24 : decode cX15_init 24 = .ok (.putfield 17, 3) := by decide +kernel
theorem dX15_init_27 : decode cX15_init 27 = .ok (.aload_n 0, 1) := by decide +kernel
theorem dX15_init_28 : decode cX15_init 28 = .ok (.sipush 402, 3) := by decide +kernel
theorem dX15_init_31 : decode cX15_init 31 = .ok (.newarray .int, 2) := by decide +kernel
theorem dX15_init_33 : decode cX15_init 33 = .ok (.putfield 20, 3) := by decide +kernel
theorem dX15_init_36 : decode cX15_init 36 = .ok (.aload_n 0, 1) := by decide +kernel
theorem dX15_init_37 : decode cX15_init 37 = .ok (.sipush 402, 3) := by decide +kernel
theorem dX15_init_40 : decode cX15_init 40 = .ok (.newarray .int, 2) := by decide +kernel
theorem dX15_init_42 : decode cX15_init 42 = .ok (.putfield 23, 3) := by decide +kernel
theorem dX15_init_45 : decode cX15_init 45 = .ok (.aload_n 0, 1) := by decide +kernel
theorem dX15_init_46 : decode cX15_init 46 = .ok (.sipush 402, 3) := by decide +kernel
theorem dX15_init_49 : decode cX15_init 49 = .ok (.newarray .int, 2) := by decide +kernel
theorem dX15_init_51 : decode cX15_init 51 = .ok (.putfield 26, 3) := by decide +kernel
theorem dX15_init_54 : decode cX15_init 54 = .ok (.aload_n 0, 1) := by decide +kernel
theorem dX15_init_55 : decode cX15_init 55 = .ok (.bipush 8, 2) := by decide +kernel
theorem dX15_init_57 : decode cX15_init 57 = .ok (.newarray .int, 2) := by decide +kernel
theorem dX15_init_59 : decode cX15_init 59 = .ok (.putfield 29, 3) := by decide +kernel
theorem dX15_init_62 : decode cX15_init 62 = .ok (.aload_n 0, 1) := by decide +kernel
theorem dX15_init_63 : decode cX15_init 63 = .ok (.new 32, 3) := by decide +kernel
theorem dX15_init_66 : decode cX15_init 66 = .ok (.dup, 1) := by decide +kernel
theorem dX15_init_67 : decode cX15_init 67 = .ok (.invokespecial 34, 3) := by decide +kernel
theorem dX15_init_70 : decode cX15_init 70 = .ok (.putfield 35, 3) := by decide +kernel
theorem dX15_init_73 : decode cX15_init 73 = .ok (.aload_n 0, 1) := by decide +kernel
theorem dX15_init_74 : decode cX15_init 74 = .ok (.new 32, 3) := by decide +kernel
theorem dX15_init_77 : decode cX15_init 77 = .ok (.dup, 1) := by decide +kernel
theorem dX15_init_78 : decode cX15_init 78 = .ok (.invokespecial 34, 3) := by decide +kernel
theorem dX15_init_81 : decode cX15_init 81 = .ok (.putfield 39, 3) := by decide +kernel
theorem dX15_init_84 : decode cX15_init 84 = .ok (.aload_n 0, 1) := by decide +kernel
theorem dX15_init_85 : decode cX15_init 85 = .ok (.sipush 800, 3) := by decide +kernel
theorem dX15_init_88 : decode cX15_init 88 = .ok (.newarray .int, 2) := by decide +kernel
theorem dX15_init_90 : decode cX15_init 90 = .ok (.putfield 42, 3) := by decide +kernel
theorem dX15_init_93 : decode cX15_init 93 = .ok (.aload_n 0, 1) := by decide +kernel
theorem dX15_init_94 : decode cX15_init 94 = .ok (.new 45, 3) := by decide +kernel
theorem dX15_init_97 : decode cX15_init 97 = .ok (.dup, 1) := by decide +kernel
theorem dX15_init_98 : decode cX15_init 98 = .ok (.invokespecial 47, 3) := by decide +kernel
theorem dX15_init_101 : decode cX15_init 101 = .ok (.putfield 48, 3) := by decide +kernel
theorem dX15_init_104 : decode cX15_init 104 = .ok (.aload_n 0, 1) := by decide +kernel
theorem dX15_init_105 : decode cX15_init 105 = .ok (.new 45, 3) := by decide +kernel
theorem dX15_init_108 : decode cX15_init 108 = .ok (.dup, 1) := by decide +kernel
theorem dX15_init_109 : decode cX15_init 109 = .ok (.invokespecial 47, 3) := by decide +kernel
theorem dX15_init_112 : decode cX15_init 112 = .ok (.putfield 52, 3) := by decide +kernel
theorem dX15_init_115 : decode cX15_init 115 = .ok (.aload_n 0, 1) := by decide +kernel
theorem dX15_init_116 : decode cX15_init 116 = .ok (.sipush 576, 3) := by decide +kernel
theorem dX15_init_119 : decode cX15_init 119 = .ok (.newarray .int, 2) := by decide +kernel
theorem dX15_init_121 : decode cX15_init 121 = .ok (.putfield 55, 3) := by decide +kernel
theorem dX15_init_124 : decode cX15_init 124 = .ok (.aload_n 0, 1) := by decide +kernel
theorem dX15_init_125 : decode cX15_init 125 = .ok (.getfield 48, 3) := by decide +kernel
theorem dX15_init_128 : decode cX15_init 128 = .ok (.aload_n 0, 1) := by decide +kernel
theorem dX15_init_129 : decode cX15_init 129 = .ok (.getfield 35, 3) := by decide +kernel
theorem dX15_init_132 : decode cX15_init 132 = .ok (.invokevirtual 58, 3) := by decide +kernel
theorem dX15_init_135 : decode cX15_init 135 = .ok (.return_, 1) := by decide +kernel
theorem dX15_thrown_0 : decode cX15_thrown 0 = .ok (.aload_n 0, 1) := by decide +kernel
theorem dX15_thrown_1 : decode cX15_thrown 1 = .ok (.getfield 62, 3) := by decide +kernel
theorem dX15_thrown_4 : decode cX15_thrown 4 = .ok (.ireturn, 1) := by decide +kernel
theorem dX15_no_0 : decode cX15_no 0 = .ok (.aload_n 0, 1) := by decide +kernel
theorem dX15_no_1 : decode cX15_no 1 = .ok (.iload_n 1, 1) := by decide +kernel
theorem dX15_no_2 : decode cX15_no 2 = .ok (.putfield 62, 3) := by decide +kernel
theorem dX15_no_5 : decode cX15_no 5 = .ok (.iconst 0, 1) := by decide +kernel
theorem dX15_no_6 : decode cX15_no 6 = .ok (.ireturn, 1) := by decide +kernel
theorem dX15_isNot_0 : decode cX15_isNot 0 = .ok (.aload_n 0, 1) := by decide +kernel
theorem dX15_isNot_1 : decode cX15_isNot 1 = .ok (.iload_n 1, 1) := by decide +kernel
theorem dX15_isNot_2 : decode cX15_isNot 2 = .ok (.putfield 62, 3) := by decide +kernel
theorem dX15_isNot_5 : decode cX15_isNot 5 = .ok (.iconst 0, 1) := by decide +kernel
theorem dX15_isNot_6 : decode cX15_isNot 6 = .ok (.ireturn, 1) := by decide +kernel
theorem dX15_ok_0 : decode cX15_ok 0 = .ok (.aload_n 0, 1) := by decide +kernel
theorem dX15_ok_1 : decode cX15_ok 1 = .ok (.iconst 0, 1) := by decide +kernel
theorem dX15_ok_2 : decode cX15_ok 2 = .ok (.putfield 62, 3) := by decide +kernel
theorem dX15_ok_5 : decode cX15_ok 5 = .ok (.iload_n 1, 1) := by decide +kernel
theorem dX15_ok_6 : decode cX15_ok 6 = .ok (.ireturn, 1) := by decide +kernel
theorem dX15_isIn_0 : decode cX15_isIn 0 = .ok (.iload_n 0, 1) := by decide +kernel
theorem dX15_isIn_1 : decode cX15_isIn 1 = .ok (.iload_n 1, 1) := by decide +kernel
theorem dX15_isIn_2 : decode cX15_isIn 2 = .ok (.if_icmp .lt 12, 3) := by decide +kernel
theorem dX15_isIn_5 : decode cX15_isIn 5 = .ok (.iload_n 0, 1) := by decide +kernel
theorem dX15_isIn_6 : decode cX15_isIn 6 = .ok (.iload_n 2, 1) := by decide +kernel
theorem dX15_isIn_7 : decode cX15_isIn 7 = .ok (.if_icmp .gt 7, 3) := by decide +kernel
theorem dX15_isIn_10 : decode cX15_isIn 10 = .ok (.iconst 1, 1) := by decide +kernel
theorem dX15_isIn_11 : decode cX15_isIn 11 = .ok (.goto 4, 3) := by decide +kernel
theorem dX15_isIn_14 : decode cX15_isIn 14 = .ok (.iconst 0, 1) := by decide +kernel
theorem dX15_isIn_15 : decode cX15_isIn 15 = .ok (.ireturn, 1) := by decide +kernel
theorem dX15_isLetter_0 : decode cX15_isLetter 0 = .ok (.iload_n 0, 1) := by decide +kernel
theorem dX15_isLetter_1 : decode cX15_isLetter 1 = .ok (.bipush 97, 2) := by decide +kernel
theorem dX15_isLetter_3 : decode cX15_isLetter 3 = .ok (.bipush 122, 2) := by decide +kernel
theorem dX15_isLetter_5 : decode cX15_isLetter 5 = .ok (.invokestatic 65, 3) := by decide +kernel
theorem dX15_isLetter_8 : decode cX15_isLetter 8 = .ok (.ireturn, 1) := by decide +kernel
theorem dX15_isDigit_0 : decode cX15_isDigit 0 = .ok (.iload_n 0, 1) := by decide +kernel
theorem dX15_isDigit_1 : decode cX15_isDigit 1 = .ok (.bipush 48, 2) := by decide +kernel
theorem dX15_isDigit_3 : decode cX15_isDigit 3 = .ok (.bipush 57, 2) := by decide +kernel
theorem dX15_isDigit_5 : decode cX15_isDigit 5 = .ok (.invokestatic 65, 3) := by decide +kernel
theorem dX15_isDigit_8 : decode cX15_isDigit 8 = .ok (.ireturn, 1) := by decide +kernel
theorem dX15_byteAt_0 : decode cX15_byteAt 0 = .ok (.iload_n 1, 1) := by decide +kernel
theorem dX15_byteAt_1 : decode cX15_byteAt 1 = .ok (.aload_n 0, 1) := by decide +kernel
theorem dX15_byteAt_2 : decode cX15_byteAt 2 = .ok (.getfield 69, 3) := by decide +kernel
theorem dX15_byteAt_5 : decode cX15_byteAt 5 = .ok (.if_icmp .ge 12, 3) := by decide +kernel
theorem dX15_byteAt_8 : decode cX15_byteAt 8 = .ok (.aload_n 0, 1) := by decide +kernel
theorem dX15_byteAt_9 : decode cX15_byteAt 9 = .ok (.getfield 9, 3) := by decide +kernel
theorem dX15_byteAt_12 : decode cX15_byteAt 12 = .ok (.iload_n 1, 1) := by decide +kernel
theorem dX15_byteAt_13 : decode cX15_byteAt 13 = .ok (.iaload, 1) := by decide +kernel
theorem dX15_byteAt_14 : decode cX15_byteAt 14 = .ok (.goto 4, 3) := by decide +kernel
theorem dX15_byteAt_17 : decode cX15_byteAt 17 = .ok (.iconst (-1), 1) := by decide +kernel
theorem dX15_byteAt_18 : decode cX15_byteAt 18 = .ok (.ireturn, 1) := by decide +kernel
theorem dX15_isWord_0 : decode cX15_isWord 0 = .ok (.aload_n 3, 1) := by decide +kernel
theorem dX15_isWord_1 : decode cX15_isWord 1 = .ok (.invokevirtual 72, 3) := by decide +kernel
theorem dX15_isWord_4 : decode cX15_isWord 4 = .ok (.iload_n 2, 1) := by decide +kernel
theorem dX15_isWord_5 : decode cX15_isWord 5 = .ok (.if_icmp .eq 5, 3) := by decide +kernel
theorem dX15_isWord_8 : decode cX15_isWord 8 = .ok (.iconst 0, 1) := by decide +kernel
theorem dX15_isWord_9 : decode cX15_isWord 9 = .ok (.ireturn, 1) := by decide +kernel
theorem dX15_isWord_10 : decode cX15_isWord 10 = .ok (.iconst 0, 1) := by decide +kernel
theorem dX15_isWord_11 : decode cX15_isWord 11 = .ok (.istore 4, 2) := by decide +kernel
theorem dX15_isWord_13 : decode cX15_isWord 13 = .ok (.iload 4, 2) := by decide +kernel
theorem dX15_isWord_15 : decode cX15_isWord 15 = .ok (.iload_n 2, 1) := by decide +kernel
theorem dX15_isWord_16 : decode cX15_isWord 16 = .ok (.if_icmp .ge 29, 3) := by decide +kernel
theorem dX15_isWord_19 : decode cX15_isWord 19 = .ok (.aload_n 3, 1) := by decide +kernel
theorem dX15_isWord_20 : decode cX15_isWord 20 = .ok (.iload 4, 2) := by decide +kernel
theorem dX15_isWord_22 : decode cX15_isWord 22 = .ok (.invokevirtual 77, 3) := by decide +kernel
theorem dX15_isWord_25 : decode cX15_isWord 25 = .ok (.aload_n 0, 1) := by decide +kernel
theorem dX15_isWord_26 : decode cX15_isWord 26 = .ok (.getfield 9, 3) := by decide +kernel
theorem dX15_isWord_29 : decode cX15_isWord 29 = .ok (.iload_n 1, 1) := by decide +kernel
theorem dX15_isWord_30 : decode cX15_isWord 30 = .ok (.iload 4, 2) := by decide +kernel
theorem dX15_isWord_32 : decode cX15_isWord 32 = .ok (.iadd, 1) := by decide +kernel
theorem dX15_isWord_33 : decode cX15_isWord 33 = .ok (.iaload, 1) := by decide +kernel
theorem dX15_isWord_34 : decode cX15_isWord 34 = .ok (.if_icmp .eq 5, 3) := by decide +kernel
theorem dX15_isWord_37 : decode cX15_isWord 37 = .ok (.iconst 0, 1) := by decide +kernel
theorem dX15_isWord_38 : decode cX15_isWord 38 = .ok (.ireturn, 1) := by decide +kernel
theorem dX15_isWord_39 : decode cX15_isWord 39 = .ok (.iinc 4 1, 3) := by decide +kernel
theorem dX15_isWord_42 : decode cX15_isWord 42 = .ok (.goto (-29), 3) := by decide +kernel
theorem dX15_isWord_45 : decode cX15_isWord 45 = .ok (.iconst 1, 1) := by decide +kernel
theorem dX15_isWord_46 : decode cX15_isWord 46 = .ok (.ireturn, 1) := by decide +kernel
theorem dX15_keyword_0 : decode cX15_keyword 0 = .ok (.iconst 0, 1) := by decide +kernel
theorem dX15_keyword_1 : decode cX15_keyword 1 = .ok (.istore_n 3, 1) := by decide +kernel
theorem dX15_keyword_2 : decode cX15_keyword 2 = .ok (.iload_n 3, 1) := by decide +kernel
theorem dX15_keyword_3 : decode cX15_keyword 3 = .ok (.getstatic 81, 3) := by decide +kernel
theorem dX15_keyword_6 : decode cX15_keyword 6 = .ok (.arraylength, 1) := by decide +kernel
theorem dX15_keyword_7 : decode cX15_keyword 7 = .ok (.if_icmp .ge 25, 3) := by decide +kernel
theorem dX15_keyword_10 : decode cX15_keyword 10 = .ok (.aload_n 0, 1) := by decide +kernel
theorem dX15_keyword_11 : decode cX15_keyword 11 = .ok (.iload_n 1, 1) := by decide +kernel
theorem dX15_keyword_12 : decode cX15_keyword 12 = .ok (.iload_n 2, 1) := by decide +kernel
theorem dX15_keyword_13 : decode cX15_keyword 13 = .ok (.getstatic 81, 3) := by decide +kernel
theorem dX15_keyword_16 : decode cX15_keyword 16 = .ok (.iload_n 3, 1) := by decide +kernel
theorem dX15_keyword_17 : decode cX15_keyword 17 = .ok (.aaload, 1) := by decide +kernel
theorem dX15_keyword_18 : decode cX15_keyword 18 = .ok (.invokevirtual 85, 3) := by decide +kernel
theorem dX15_keyword_21 : decode cX15_keyword 21 = .ok (.ifCond .eq 5, 3) := by decide +kernel
theorem dX15_keyword_24 : decode cX15_keyword 24 = .ok (.iload_n 3, 1) := by decide +kernel
theorem dX15_keyword_25 : decode cX15_keyword 25 = .ok (.ireturn, 1) := by decide +kernel
theorem dX15_keyword_26 : decode cX15_keyword 26 = .ok (.iinc 3 1, 3) := by decide +kernel
theorem dX15_keyword_29 : decode cX15_keyword 29 = .ok (.goto (-27), 3) := by decide +kernel
theorem dX15_keyword_32 : decode cX15_keyword 32 = .ok (.iload_n 2, 1) := by decide +kernel
theorem dX15_keyword_33 : decode cX15_keyword 33 = .ok (.bipush 10, 2) := by decide +kernel
theorem dX15_keyword_35 : decode cX15_keyword 35 = .ok (.if_icmp .le 8, 3) := by decide +kernel
theorem dX15_keyword_38 : decode cX15_keyword 38 = .ok (.bipush 32, 2) := by decide +kernel
theorem dX15_keyword_40 : decode cX15_keyword 40 = .ok (.goto 5, 3) := by decide +kernel
theorem dX15_keyword_43 : decode cX15_keyword 43 = .ok (.bipush 30, 2) := by decide +kernel
theorem dX15_keyword_45 : decode cX15_keyword 45 = .ok (.ireturn, 1) := by decide +kernel
theorem dX15_symbol_0 : decode cX15_symbol 0 = .ok (.iload_n 0, 1) := by decide +kernel
theorem dX15_symbol_1 : decode cX15_symbol 1 = .ok (.tableswitch 270 40 93 #[231, 234, 255, 249, 246, 252, 270, 258, 270, 270, 270, 270, 270, 270, 270, 270, 270, 270, 270, 243, 261, 267, 264, 270, 270, 270, 270, 270, 270, 270, 270, 270, 270, 270, 270, 270, 270, 270, 270, 270, 270, 270, 270, 270, 270, 270, 270, 270, 270, 270, 270, 237, 270, 240], 231) := by decide +kernel
theorem dX15_symbol_232 : decode cX15_symbol 232 = .ok (.bipush 49, 2) := by decide +kernel
theorem dX15_symbol_234 : decode cX15_symbol 234 = .ok (.ireturn, 1) := by decide +kernel
theorem dX15_symbol_235 : decode cX15_symbol 235 = .ok (.bipush 50, 2) := by decide +kernel
theorem dX15_symbol_237 : decode cX15_symbol 237 = .ok (.ireturn, 1) := by decide +kernel
theorem dX15_symbol_238 : decode cX15_symbol 238 = .ok (.bipush 51, 2) := by decide +kernel
theorem dX15_symbol_240 : decode cX15_symbol 240 = .ok (.ireturn, 1) := by decide +kernel
theorem dX15_symbol_241 : decode cX15_symbol 241 = .ok (.bipush 52, 2) := by decide +kernel
theorem dX15_symbol_243 : decode cX15_symbol 243 = .ok (.ireturn, 1) := by decide +kernel
theorem dX15_symbol_244 : decode cX15_symbol 244 = .ok (.bipush 53, 2) := by decide +kernel
theorem dX15_symbol_246 : decode cX15_symbol 246 = .ok (.ireturn, 1) := by decide +kernel
theorem dX15_symbol_247 : decode cX15_symbol 247 = .ok (.bipush 54, 2) := by decide +kernel
theorem dX15_symbol_249 : decode cX15_symbol 249 = .ok (.ireturn, 1) := by decide +kernel
theorem dX15_symbol_250 : decode cX15_symbol 250 = .ok (.bipush 40, 2) := by decide +kernel
theorem dX15_symbol_252 : decode cX15_symbol 252 = .ok (.ireturn, 1) := by decide +kernel
theorem dX15_symbol_253 : decode cX15_symbol 253 = .ok (.bipush 41, 2) := by decide +kernel
theorem dX15_symbol_255 : decode cX15_symbol 255 = .ok (.ireturn, 1) := by decide +kernel
theorem dX15_symbol_256 : decode cX15_symbol 256 = .ok (.bipush 42, 2) := by decide +kernel
theorem dX15_symbol_258 : decode cX15_symbol 258 = .ok (.ireturn, 1) := by decide +kernel
theorem dX15_symbol_259 : decode cX15_symbol 259 = .ok (.bipush 43, 2) := by decide +kernel
theorem dX15_symbol_261 : decode cX15_symbol 261 = .ok (.ireturn, 1) := by decide +kernel
theorem dX15_symbol_262 : decode cX15_symbol 262 = .ok (.bipush 44, 2) := by decide +kernel
theorem dX15_symbol_264 : decode cX15_symbol 264 = .ok (.ireturn, 1) := by decide +kernel
theorem dX15_symbol_265 : decode cX15_symbol 265 = .ok (.bipush 45, 2) := by decide +kernel
theorem dX15_symbol_267 : decode cX15_symbol 267 = .ok (.ireturn, 1) := by decide +kernel
theorem dX15_symbol_268 : decode cX15_symbol 268 = .ok (.bipush 46, 2) := by decide +kernel
theorem dX15_symbol_270 : decode cX15_symbol 270 = .ok (.ireturn, 1) := by decide +kernel
theorem dX15_symbol_271 : decode cX15_symbol 271 = .ok (.bipush 32, 2) := by decide +kernel
theorem dX15_symbol_273 : decode cX15_symbol 273 = .ok (.ireturn, 1) := by decide +kernel
theorem dX15_read_0 : decode cX15_read 0 = .ok (.aload_n 0, 1) := by decide +kernel
theorem dX15_read_1 : decode cX15_read 1 = .ok (.getfield 9, 3) := by decide +kernel
theorem dX15_read_4 : decode cX15_read 4 = .ok (.iload_n 1, 1) := by decide +kernel
theorem dX15_read_5 : decode cX15_read 5 = .ok (.iaload, 1) := by decide +kernel
theorem dX15_read_6 : decode cX15_read 6 = .ok (.istore_n 3, 1) := by decide +kernel
theorem dX15_read_7 : decode cX15_read 7 = .ok (.iload_n 1, 1) := by decide +kernel
theorem dX15_read_8 : decode cX15_read 8 = .ok (.iconst 1, 1) := by decide +kernel
theorem dX15_read_9 : decode cX15_read 9 = .ok (.iadd, 1) := by decide +kernel
theorem dX15_read_10 : decode cX15_read 10 = .ok (.istore 4, 2) := by decide +kernel
theorem dX15_read_12 : decode cX15_read 12 = .ok (.aload_n 0, 1) := by decide +kernel
theorem dX15_read_13 : decode cX15_read 13 = .ok (.getfield 23, 3) := by decide +kernel
theorem dX15_read_16 : decode cX15_read 16 = .ok (.iload_n 2, 1) := by decide +kernel
theorem dX15_read_17 : decode cX15_read 17 = .ok (.iload_n 1, 1) := by decide +kernel
theorem dX15_read_18 : decode cX15_read 18 = .ok (.iastore, 1) := by decide +kernel
theorem dX15_read_19 : decode cX15_read 19 = .ok (.iload_n 3, 1) := by decide +kernel
theorem dX15_read_20 : decode cX15_read 20 = .ok (.invokestatic 89, 3) := by decide +kernel
theorem dX15_read_23 : decode cX15_read 23 = .ok (.ifCond .eq 51, 3) := by decide +kernel
theorem dX15_read_26 : decode cX15_read 26 = .ok (.aload_n 0, 1) := by decide +kernel
theorem dX15_read_27 : decode cX15_read 27 = .ok (.iload 4, 2) := by decide +kernel
theorem dX15_read_29 : decode cX15_read 29 = .ok (.invokevirtual 93, 3) := by decide +kernel
theorem dX15_read_32 : decode cX15_read 32 = .ok (.invokestatic 89, 3) := by decide +kernel
theorem dX15_read_35 : decode cX15_read 35 = .ok (.ifCond .ne 15, 3) := by decide +kernel
theorem dX15_read_38 : decode cX15_read 38 = .ok (.aload_n 0, 1) := by decide +kernel
theorem dX15_read_39 : decode cX15_read 39 = .ok (.iload 4, 2) := by decide +kernel
theorem dX15_read_41 : decode cX15_read 41 = .ok (.invokevirtual 93, 3) := by decide +kernel
theorem dX15_read_44 : decode cX15_read 44 = .ok (.invokestatic 97, 3) := by decide +kernel
theorem dX15_read_47 : decode cX15_read 47 = .ok (.ifCond .eq 9, 3) := by decide +kernel
theorem dX15_read_50 : decode cX15_read 50 = .ok (.iinc 4 1, 3) := by decide +kernel
theorem dX15_read_53 : decode cX15_read 53 = .ok (.goto (-27), 3) := by decide +kernel
theorem dX15_read_56 : decode cX15_read 56 = .ok (.aload_n 0, 1) := by decide +kernel
theorem dX15_read_57 : decode cX15_read 57 = .ok (.getfield 17, 3) := by decide +kernel
theorem dX15_read_60 : decode cX15_read 60 = .ok (.iload_n 2, 1) := by decide +kernel
theorem dX15_read_61 : decode cX15_read 61 = .ok (.aload_n 0, 1) := by decide +kernel
theorem dX15_read_62 : decode cX15_read 62 = .ok (.iload_n 1, 1) := by decide +kernel
theorem dX15_read_63 : decode cX15_read 63 = .ok (.iload 4, 2) := by decide +kernel
theorem dX15_read_65 : decode cX15_read 65 = .ok (.iload_n 1, 1) := by decide +kernel
theorem dX15_read_66 : decode cX15_read 66 = .ok (.isub, 1) := by decide +kernel
theorem dX15_read_67 : decode cX15_read 67 = .ok (.invokevirtual 100, 3) := by decide +kernel
theorem dX15_read_70 : decode cX15_read 70 = .ok (.iastore, 1) := by decide +kernel
theorem dX15_read_71 : decode cX15_read 71 = .ok (.goto 168, 3) := by decide +kernel
theorem dX15_read_74 : decode cX15_read 74 = .ok (.iload_n 3, 1) := by decide +kernel
theorem dX15_read_75 : decode cX15_read 75 = .ok (.invokestatic 97, 3) := by decide +kernel
theorem dX15_read_78 : decode cX15_read 78 = .ok (.ifCond .eq 91, 3) := by decide +kernel
theorem dX15_read_81 : decode cX15_read 81 = .ok (.iload_n 3, 1) := by decide +kernel
theorem dX15_read_82 : decode cX15_read 82 = .ok (.bipush 48, 2) := by decide +kernel
theorem dX15_read_84 : decode cX15_read 84 = .ok (.isub, 1) := by decide +kernel
theorem dX15_read_85 : decode cX15_read 85 = .ok (.istore 5, 2) := by decide +kernel
theorem dX15_read_87 : decode cX15_read 87 = .ok (.aload_n 0, 1) := by decide +kernel
theorem dX15_read_88 : decode cX15_read 88 = .ok (.iload 4, 2) := by decide +kernel
theorem dX15_read_90 : decode cX15_read 90 = .ok (.invokevirtual 93, 3) := by decide +kernel
theorem dX15_read_93 : decode cX15_read 93 = .ok (.invokestatic 97, 3) := by decide +kernel
theorem dX15_read_96 : decode cX15_read 96 = .ok (.ifCond .eq 40, 3) := by decide +kernel
theorem dX15_read_99 : decode cX15_read 99 = .ok (.iload 4, 2) := by decide +kernel
theorem dX15_read_101 : decode cX15_read 101 = .ok (.iload_n 1, 1) := by decide +kernel
theorem dX15_read_102 : decode cX15_read 102 = .ok (.isub, 1) := by decide +kernel
theorem dX15_read_103 : decode cX15_read 103 = .ok (.bipush 7, 2) := by decide +kernel
theorem dX15_read_105 : decode cX15_read 105 = .ok (.if_icmp .ge 21, 3) := by decide +kernel
theorem dX15_read_108 : decode cX15_read 108 = .ok (.bipush 10, 2) := by decide +kernel
theorem dX15_read_110 : decode cX15_read 110 = .ok (.iload 5, 2) := by decide +kernel
theorem dX15_read_112 : decode cX15_read 112 = .ok (.imul, 1) := by decide +kernel
theorem dX15_read_113 : decode cX15_read 113 = .ok (.aload_n 0, 1) := by decide +kernel
theorem dX15_read_114 : decode cX15_read 114 = .ok (.iload 4, 2) := by decide +kernel
theorem dX15_read_116 : decode cX15_read 116 = .ok (.invokevirtual 93, 3) := by decide +kernel
theorem dX15_read_119 : decode cX15_read 119 = .ok (.iadd, 1) := by decide +kernel
theorem dX15_read_120 : decode cX15_read 120 = .ok (.bipush 48, 2) := by decide +kernel
theorem dX15_read_122 : decode cX15_read 122 = .ok (.isub, 1) := by decide +kernel
theorem dX15_read_123 : decode cX15_read 123 = .ok (.goto 5, 3) := by decide +kernel
theorem dX15_read_126 : decode cX15_read 126 = .ok (.iload 5, 2) := by decide +kernel
theorem dX15_read_128 : decode cX15_read 128 = .ok (.istore 5, 2) := by decide +kernel
theorem dX15_read_130 : decode cX15_read 130 = .ok (.iinc 4 1, 3) := by decide +kernel
theorem dX15_read_133 : decode cX15_read 133 = .ok (.goto (-46), 3) := by decide +kernel
theorem dX15_read_136 : decode cX15_read 136 = .ok (.aload_n 0, 1) := by decide +kernel
theorem dX15_read_137 : decode cX15_read 137 = .ok (.getfield 20, 3) := by decide +kernel
theorem dX15_read_140 : decode cX15_read 140 = .ok (.iload_n 2, 1) := by decide +kernel
theorem dX15_read_141 : decode cX15_read 141 = .ok (.iload 5, 2) := by decide +kernel
theorem dX15_read_143 : decode cX15_read 143 = .ok (.iastore, 1) := by decide +kernel
theorem dX15_read_144 : decode cX15_read 144 = .ok (.aload_n 0, 1) := by decide +kernel
theorem dX15_read_145 : decode cX15_read 145 = .ok (.getfield 17, 3) := by decide +kernel
theorem dX15_read_148 : decode cX15_read 148 = .ok (.iload_n 2, 1) := by decide +kernel
theorem dX15_read_149 : decode cX15_read 149 = .ok (.iload 4, 2) := by decide +kernel
theorem dX15_read_151 : decode cX15_read 151 = .ok (.iload_n 1, 1) := by decide +kernel
theorem dX15_read_152 : decode cX15_read 152 = .ok (.isub, 1) := by decide +kernel
theorem dX15_read_153 : decode cX15_read 153 = .ok (.bipush 6, 2) := by decide +kernel
theorem dX15_read_155 : decode cX15_read 155 = .ok (.if_icmp .le 8, 3) := by decide +kernel
theorem dX15_read_158 : decode cX15_read 158 = .ok (.bipush 32, 2) := by decide +kernel
theorem dX15_read_160 : decode cX15_read 160 = .ok (.goto 5, 3) := by decide +kernel
theorem dX15_read_163 : decode cX15_read 163 = .ok (.bipush 31, 2) := by decide +kernel
theorem dX15_read_165 : decode cX15_read 165 = .ok (.iastore, 1) := by decide +kernel
theorem dX15_read_166 : decode cX15_read 166 = .ok (.goto 73, 3) := by decide +kernel
theorem dX15_read_169 : decode cX15_read 169 = .ok (.aload_n 0, 1) := by decide +kernel
theorem dX15_read_170 : decode cX15_read 170 = .ok (.getfield 17, 3) := by decide +kernel
theorem dX15_read_173 : decode cX15_read 173 = .ok (.iload_n 2, 1) := by decide +kernel
theorem dX15_read_174 : decode cX15_read 174 = .ok (.iload_n 3, 1) := by decide +kernel
theorem dX15_read_175 : decode cX15_read 175 = .ok (.invokestatic 104, 3) := by decide +kernel
theorem dX15_read_178 : decode cX15_read 178 = .ok (.iastore, 1) := by decide +kernel
theorem dX15_read_179 : decode cX15_read 179 = .ok (.aload_n 0, 1) := by decide +kernel
theorem dX15_read_180 : decode cX15_read 180 = .ok (.getfield 17, 3) := by decide +kernel
theorem dX15_read_183 : decode cX15_read 183 = .ok (.iload_n 2, 1) := by decide +kernel
theorem dX15_read_184 : decode cX15_read 184 = .ok (.iaload, 1) := by decide +kernel
theorem dX15_read_185 : decode cX15_read 185 = .ok (.bipush 44, 2) := by decide +kernel
theorem dX15_read_187 : decode cX15_read 187 = .ok (.if_icmp .eq 14, 3) := by decide +kernel
theorem dX15_read_190 : decode cX15_read 190 = .ok (.aload_n 0, 1) := by decide +kernel
theorem dX15_read_191 : decode cX15_read 191 = .ok (.getfield 17, 3) := by decide +kernel
theorem dX15_read_194 : decode cX15_read 194 = .ok (.iload_n 2, 1) := by decide +kernel
theorem dX15_read_195 : decode cX15_read 195 = .ok (.iaload, 1) := by decide +kernel
theorem dX15_read_196 : decode cX15_read 196 = .ok (.bipush 45, 2) := by decide +kernel
theorem dX15_read_198 : decode cX15_read 198 = .ok (.if_icmp .ne 41, 3) := by decide +kernel
theorem dX15_read_201 : decode cX15_read 201 = .ok (.aload_n 0, 1) := by decide +kernel
theorem dX15_read_202 : decode cX15_read 202 = .ok (.iload 4, 2) := by decide +kernel
theorem dX15_read_204 : decode cX15_read 204 = .ok (.invokevirtual 93, 3) := by decide +kernel
theorem dX15_read_207 : decode cX15_read 207 = .ok (.bipush 61, 2) := by decide +kernel
theorem dX15_read_209 : decode cX15_read 209 = .ok (.if_icmp .ne 30, 3) := by decide +kernel
theorem dX15_read_212 : decode cX15_read 212 = .ok (.aload_n 0, 1) := by decide +kernel
theorem dX15_read_213 : decode cX15_read 213 = .ok (.getfield 17, 3) := by decide +kernel
theorem dX15_read_216 : decode cX15_read 216 = .ok (.iload_n 2, 1) := by decide +kernel
theorem dX15_read_217 : decode cX15_read 217 = .ok (.aload_n 0, 1) := by decide +kernel
theorem dX15_read_218 : decode cX15_read 218 = .ok (.getfield 17, 3) := by decide +kernel
theorem dX15_read_221 : decode cX15_read 221 = .ok (.iload_n 2, 1) := by decide +kernel
theorem dX15_read_222 : decode cX15_read 222 = .ok (.iaload, 1) := by decide +kernel
theorem dX15_read_223 : decode cX15_read 223 = .ok (.bipush 44, 2) := by decide +kernel
theorem dX15_read_225 : decode cX15_read 225 = .ok (.if_icmp .ne 8, 3) := by decide +kernel
theorem dX15_read_228 : decode cX15_read 228 = .ok (.bipush 47, 2) := by decide +kernel
theorem dX15_read_230 : decode cX15_read 230 = .ok (.goto 5, 3) := by decide +kernel
theorem dX15_read_233 : decode cX15_read 233 = .ok (.bipush 48, 2) := by decide +kernel
theorem dX15_read_235 : decode cX15_read 235 = .ok (.iastore, 1) := by decide +kernel
theorem dX15_read_236 : decode cX15_read 236 = .ok (.iinc 4 1, 3) := by decide +kernel
theorem dX15_read_239 : decode cX15_read 239 = .ok (.aload_n 0, 1) := by decide +kernel
theorem dX15_read_240 : decode cX15_read 240 = .ok (.getfield 26, 3) := by decide +kernel
theorem dX15_read_243 : decode cX15_read 243 = .ok (.iload_n 2, 1) := by decide +kernel
theorem dX15_read_244 : decode cX15_read 244 = .ok (.iload 4, 2) := by decide +kernel
theorem dX15_read_246 : decode cX15_read 246 = .ok (.iload_n 1, 1) := by decide +kernel
theorem dX15_read_247 : decode cX15_read 247 = .ok (.isub, 1) := by decide +kernel
theorem dX15_read_248 : decode cX15_read 248 = .ok (.iastore, 1) := by decide +kernel
theorem dX15_read_249 : decode cX15_read 249 = .ok (.iload 4, 2) := by decide +kernel
theorem dX15_read_251 : decode cX15_read 251 = .ok (.ireturn, 1) := by decide +kernel
theorem dX15_skip_0 : decode cX15_skip 0 = .ok (.iload_n 1, 1) := by decide +kernel
theorem dX15_skip_1 : decode cX15_skip 1 = .ok (.istore_n 2, 1) := by decide +kernel
theorem dX15_skip_2 : decode cX15_skip 2 = .ok (.aload_n 0, 1) := by decide +kernel
theorem dX15_skip_3 : decode cX15_skip 3 = .ok (.iload_n 2, 1) := by decide +kernel
theorem dX15_skip_4 : decode cX15_skip 4 = .ok (.invokevirtual 93, 3) := by decide +kernel
theorem dX15_skip_7 : decode cX15_skip 7 = .ok (.bipush 32, 2) := by decide +kernel
theorem dX15_skip_9 : decode cX15_skip 9 = .ok (.if_icmp .eq 13, 3) := by decide +kernel
theorem dX15_skip_12 : decode cX15_skip 12 = .ok (.aload_n 0, 1) := by decide +kernel
theorem dX15_skip_13 : decode cX15_skip 13 = .ok (.iload_n 2, 1) := by decide +kernel
theorem dX15_skip_14 : decode cX15_skip 14 = .ok (.invokevirtual 93, 3) := by decide +kernel
theorem dX15_skip_17 : decode cX15_skip 17 = .ok (.bipush 10, 2) := by decide +kernel
theorem dX15_skip_19 : decode cX15_skip 19 = .ok (.if_icmp .ne 9, 3) := by decide +kernel
theorem dX15_skip_22 : decode cX15_skip 22 = .ok (.iinc 2 1, 3) := by decide +kernel
theorem dX15_skip_25 : decode cX15_skip 25 = .ok (.goto (-23), 3) := by decide +kernel
theorem dX15_skip_28 : decode cX15_skip 28 = .ok (.iload_n 2, 1) := by decide +kernel
theorem dX15_skip_29 : decode cX15_skip 29 = .ok (.ireturn, 1) := by decide +kernel
theorem dX15_readAll_0 : decode cX15_readAll 0 = .ok (.aload_n 0, 1) := by decide +kernel
theorem dX15_readAll_1 : decode cX15_readAll 1 = .ok (.iconst 0, 1) := by decide +kernel
theorem dX15_readAll_2 : decode cX15_readAll 2 = .ok (.invokevirtual 107, 3) := by decide +kernel
theorem dX15_readAll_5 : decode cX15_readAll 5 = .ok (.istore_n 1, 1) := by decide +kernel
theorem dX15_readAll_6 : decode cX15_readAll 6 = .ok (.iconst 0, 1) := by decide +kernel
theorem dX15_readAll_7 : decode cX15_readAll 7 = .ok (.istore_n 2, 1) := by decide +kernel
theorem dX15_readAll_8 : decode cX15_readAll 8 = .ok (.iload_n 1, 1) := by decide +kernel
theorem dX15_readAll_9 : decode cX15_readAll 9 = .ok (.aload_n 0, 1) := by decide +kernel
theorem dX15_readAll_10 : decode cX15_readAll 10 = .ok (.getfield 69, 3) := by decide +kernel
theorem dX15_readAll_13 : decode cX15_readAll 13 = .ok (.if_icmp .ge 52, 3) := by decide +kernel
theorem dX15_readAll_16 : decode cX15_readAll 16 = .ok (.iload_n 2, 1) := by decide +kernel
theorem dX15_readAll_17 : decode cX15_readAll 17 = .ok (.ifCond .eq 16, 3) := by decide +kernel
theorem dX15_readAll_20 : decode cX15_readAll 20 = .ok (.aload_n 0, 1) := by decide +kernel
theorem dX15_readAll_21 : decode cX15_readAll 21 = .ok (.getfield 17, 3) := by decide +kernel
theorem dX15_readAll_24 : decode cX15_readAll 24 = .ok (.iload_n 2, 1) := by decide +kernel
theorem dX15_readAll_25 : decode cX15_readAll 25 = .ok (.iconst 1, 1) := by decide +kernel
theorem dX15_readAll_26 : decode cX15_readAll 26 = .ok (.isub, 1) := by decide +kernel
theorem dX15_readAll_27 : decode cX15_readAll 27 = .ok (.iaload, 1) := by decide +kernel
theorem dX15_readAll_28 : decode cX15_readAll 28 = .ok (.bipush 32, 2) := by decide +kernel
theorem dX15_readAll_30 : decode cX15_readAll 30 = .ok (.if_icmp .eq 35, 3) := by decide +kernel
theorem dX15_readAll_33 : decode cX15_readAll 33 = .ok (.aload_n 0, 1) := by decide +kernel
theorem dX15_readAll_34 : decode cX15_readAll 34 = .ok (.aload_n 0, 1) := by decide +kernel
theorem dX15_readAll_35 : decode cX15_readAll 35 = .ok (.iload_n 1, 1) := by decide +kernel
theorem dX15_readAll_36 : decode cX15_readAll 36 = .ok (.iload_n 2, 1) := by decide +kernel
theorem dX15_readAll_37 : decode cX15_readAll 37 = .ok (.invokevirtual 110, 3) := by decide +kernel
theorem dX15_readAll_40 : decode cX15_readAll 40 = .ok (.invokevirtual 107, 3) := by decide +kernel
theorem dX15_readAll_43 : decode cX15_readAll 43 = .ok (.istore_n 1, 1) := by decide +kernel
theorem dX15_readAll_44 : decode cX15_readAll 44 = .ok (.iload_n 2, 1) := by decide +kernel
theorem dX15_readAll_45 : decode cX15_readAll 45 = .ok (.sipush 400, 3) := by decide +kernel
theorem dX15_readAll_48 : decode cX15_readAll 48 = .ok (.if_icmp .ne 11, 3) := by decide +kernel
theorem dX15_readAll_51 : decode cX15_readAll 51 = .ok (.aload_n 0, 1) := by decide +kernel
theorem dX15_readAll_52 : decode cX15_readAll 52 = .ok (.getfield 17, 3) := by decide +kernel
theorem dX15_readAll_55 : decode cX15_readAll 55 = .ok (.iload_n 2, 1) := by decide +kernel
theorem dX15_readAll_56 : decode cX15_readAll 56 = .ok (.bipush 32, 2) := by decide +kernel
theorem dX15_readAll_58 : decode cX15_readAll 58 = .ok (.iastore, 1) := by decide +kernel
theorem dX15_readAll_59 : decode cX15_readAll 59 = .ok (.iinc 2 1, 3) := by decide +kernel
theorem dX15_readAll_62 : decode cX15_readAll 62 = .ok (.goto (-54), 3) := by decide +kernel
theorem dX15_readAll_65 : decode cX15_readAll 65 = .ok (.aload_n 0, 1) := by decide +kernel
theorem dX15_readAll_66 : decode cX15_readAll 66 = .ok (.getfield 17, 3) := by decide +kernel
theorem dX15_readAll_69 : decode cX15_readAll 69 = .ok (.iload_n 2, 1) := by decide +kernel
theorem dX15_readAll_70 : decode cX15_readAll 70 = .ok (.bipush 33, 2) := by decide +kernel
theorem dX15_readAll_72 : decode cX15_readAll 72 = .ok (.iastore, 1) := by decide +kernel
theorem dX15_readAll_73 : decode cX15_readAll 73 = .ok (.aload_n 0, 1) := by decide +kernel
theorem dX15_readAll_74 : decode cX15_readAll 74 = .ok (.getfield 23, 3) := by decide +kernel
theorem dX15_readAll_77 : decode cX15_readAll 77 = .ok (.iload_n 2, 1) := by decide +kernel
theorem dX15_readAll_78 : decode cX15_readAll 78 = .ok (.aload_n 0, 1) := by decide +kernel
theorem dX15_readAll_79 : decode cX15_readAll 79 = .ok (.getfield 69, 3) := by decide +kernel
theorem dX15_readAll_82 : decode cX15_readAll 82 = .ok (.iastore, 1) := by decide +kernel
theorem dX15_readAll_83 : decode cX15_readAll 83 = .ok (.return_, 1) := by decide +kernel
theorem dX15_is_0 : decode cX15_is 0 = .ok (.aload_n 0, 1) := by decide +kernel
theorem dX15_is_1 : decode cX15_is 1 = .ok (.getfield 113, 3) := by decide +kernel
theorem dX15_is_4 : decode cX15_is 4 = .ok (.ifCond .ne 20, 3) := by decide +kernel
theorem dX15_is_7 : decode cX15_is 7 = .ok (.aload_n 0, 1) := by decide +kernel
theorem dX15_is_8 : decode cX15_is 8 = .ok (.getfield 17, 3) := by decide +kernel
theorem dX15_is_11 : decode cX15_is 11 = .ok (.aload_n 0, 1) := by decide +kernel
theorem dX15_is_12 : decode cX15_is 12 = .ok (.getfield 117, 3) := by decide +kernel
theorem dX15_is_15 : decode cX15_is 15 = .ok (.iaload, 1) := by decide +kernel
theorem dX15_is_16 : decode cX15_is 16 = .ok (.iload_n 1, 1) := by decide +kernel
theorem dX15_is_17 : decode cX15_is 17 = .ok (.if_icmp .ne 7, 3) := by decide +kernel
theorem dX15_is_20 : decode cX15_is 20 = .ok (.iconst 1, 1) := by decide +kernel
theorem dX15_is_21 : decode cX15_is 21 = .ok (.goto 4, 3) := by decide +kernel
theorem dX15_is_24 : decode cX15_is 24 = .ok (.iconst 0, 1) := by decide +kernel
theorem dX15_is_25 : decode cX15_is 25 = .ok (.ireturn, 1) := by decide +kernel
theorem dX15_wrong_0 : decode cX15_wrong 0 = .ok (.aload_n 0, 1) := by decide +kernel
theorem dX15_wrong_1 : decode cX15_wrong 1 = .ok (.getfield 113, 3) := by decide +kernel
theorem dX15_wrong_4 : decode cX15_wrong 4 = .ok (.ifCond .eq 4, 3) := by decide +kernel
theorem dX15_wrong_7 : decode cX15_wrong 7 = .ok (.return_, 1) := by decide +kernel
theorem dX15_wrong_8 : decode cX15_wrong 8 = .ok (.aload_n 0, 1) := by decide +kernel
theorem dX15_wrong_9 : decode cX15_wrong 9 = .ok (.iconst 1, 1) := by decide +kernel
theorem dX15_wrong_10 : decode cX15_wrong 10 = .ok (.putfield 113, 3) := by decide +kernel
theorem dX15_wrong_13 : decode cX15_wrong 13 = .ok (.aload_n 0, 1) := by decide +kernel
theorem dX15_wrong_14 : decode cX15_wrong 14 = .ok (.iconst 1, 1) := by decide +kernel
theorem dX15_wrong_15 : decode cX15_wrong 15 = .ok (.putfield 120, 3) := by decide +kernel
theorem dX15_wrong_18 : decode cX15_wrong 18 = .ok (.aload_n 0, 1) := by decide +kernel
theorem dX15_wrong_19 : decode cX15_wrong 19 = .ok (.aload_n 0, 1) := by decide +kernel
theorem dX15_wrong_20 : decode cX15_wrong 20 = .ok (.getfield 117, 3) := by decide +kernel
theorem dX15_wrong_23 : decode cX15_wrong 23 = .ok (.putfield 123, 3) := by decide +kernel
theorem dX15_wrong_26 : decode cX15_wrong 26 = .ok (.return_, 1) := by decide +kernel
theorem dX15_take_0 : decode cX15_take 0 = .ok (.aload_n 0, 1) := by decide +kernel
theorem dX15_take_1 : decode cX15_take 1 = .ok (.iload_n 1, 1) := by decide +kernel
theorem dX15_take_2 : decode cX15_take 2 = .ok (.invokevirtual 126, 3) := by decide +kernel
theorem dX15_take_5 : decode cX15_take 5 = .ok (.ifCond .eq 16, 3) := by decide +kernel
theorem dX15_take_8 : decode cX15_take 8 = .ok (.aload_n 0, 1) := by decide +kernel
theorem dX15_take_9 : decode cX15_take 9 = .ok (.dup, 1) := by decide +kernel
theorem dX15_take_10 : decode cX15_take 10 = .ok (.getfield 117, 3) := by decide +kernel
theorem dX15_take_13 : decode cX15_take 13 = .ok (.iconst 1, 1) := by decide +kernel
theorem dX15_take_14 : decode cX15_take 14 = .ok (.iadd, 1) := by decide +kernel
theorem dX15_take_15 : decode cX15_take 15 = .ok (.putfield 117, 3) := by decide +kernel
theorem dX15_take_18 : decode cX15_take 18 = .ok (.goto 7, 3) := by decide +kernel
theorem dX15_take_21 : decode cX15_take 21 = .ok (.aload_n 0, 1) := by decide +kernel
theorem dX15_take_22 : decode cX15_take 22 = .ok (.invokevirtual 129, 3) := by decide +kernel
theorem dX15_take_25 : decode cX15_take 25 = .ok (.return_, 1) := by decide +kernel
theorem dX15_takes_0 : decode cX15_takes 0 = .ok (.aload_n 0, 1) := by decide +kernel
theorem dX15_takes_1 : decode cX15_takes 1 = .ok (.iload_n 1, 1) := by decide +kernel
theorem dX15_takes_2 : decode cX15_takes 2 = .ok (.invokevirtual 126, 3) := by decide +kernel
theorem dX15_takes_5 : decode cX15_takes 5 = .ok (.ifCond .ne 5, 3) := by decide +kernel
theorem dX15_takes_8 : decode cX15_takes 8 = .ok (.iconst 0, 1) := by decide +kernel
theorem dX15_takes_9 : decode cX15_takes 9 = .ok (.ireturn, 1) := by decide +kernel
theorem dX15_takes_10 : decode cX15_takes 10 = .ok (.aload_n 0, 1) := by decide +kernel
theorem dX15_takes_11 : decode cX15_takes 11 = .ok (.dup, 1) := by decide +kernel
theorem dX15_takes_12 : decode cX15_takes 12 = .ok (.getfield 117, 3) := by decide +kernel
theorem dX15_takes_15 : decode cX15_takes 15 = .ok (.iconst 1, 1) := by decide +kernel
theorem dX15_takes_16 : decode cX15_takes 16 = .ok (.iadd, 1) := by decide +kernel
theorem dX15_takes_17 : decode cX15_takes 17 = .ok (.putfield 117, 3) := by decide +kernel
theorem dX15_takes_20 : decode cX15_takes 20 = .ok (.iconst 1, 1) := by decide +kernel
theorem dX15_takes_21 : decode cX15_takes 21 = .ok (.ireturn, 1) := by decide +kernel
theorem dX15_deeper_0 : decode cX15_deeper 0 = .ok (.aload_n 0, 1) := by decide +kernel
theorem dX15_deeper_1 : decode cX15_deeper 1 = .ok (.getfield 132, 3) := by decide +kernel
theorem dX15_deeper_4 : decode cX15_deeper 4 = .ok (.bipush 8, 2) := by decide +kernel
theorem dX15_deeper_6 : decode cX15_deeper 6 = .ok (.if_icmp .ne 10, 3) := by decide +kernel
theorem dX15_deeper_9 : decode cX15_deeper 9 = .ok (.aload_n 0, 1) := by decide +kernel
theorem dX15_deeper_10 : decode cX15_deeper 10 = .ok (.invokevirtual 129, 3) := by decide +kernel
theorem dX15_deeper_13 : decode cX15_deeper 13 = .ok (.goto 13, 3) := by decide +kernel
theorem dX15_deeper_16 : decode cX15_deeper 16 = .ok (.aload_n 0, 1) := by decide +kernel
theorem dX15_deeper_17 : decode cX15_deeper 17 = .ok (.dup, 1) := by decide +kernel
theorem dX15_deeper_18 : decode cX15_deeper 18 = .ok (.getfield 117, 3) := by decide +kernel
theorem dX15_deeper_21 : decode cX15_deeper 21 = .ok (.iconst 1, 1) := by decide +kernel
theorem dX15_deeper_22 : decode cX15_deeper 22 = .ok (.iadd, 1) := by decide +kernel
theorem dX15_deeper_23 : decode cX15_deeper 23 = .ok (.putfield 117, 3) := by decide +kernel
theorem dX15_deeper_26 : decode cX15_deeper 26 = .ok (.aload_n 0, 1) := by decide +kernel
theorem dX15_deeper_27 : decode cX15_deeper 27 = .ok (.dup, 1) := by decide +kernel
theorem dX15_deeper_28 : decode cX15_deeper 28 = .ok (.getfield 132, 3) := by decide +kernel
theorem dX15_deeper_31 : decode cX15_deeper 31 = .ok (.iconst 1, 1) := by decide +kernel
theorem dX15_deeper_32 : decode cX15_deeper 32 = .ok (.iadd, 1) := by decide +kernel
theorem dX15_deeper_33 : decode cX15_deeper 33 = .ok (.putfield 132, 3) := by decide +kernel
theorem dX15_deeper_36 : decode cX15_deeper 36 = .ok (.return_, 1) := by decide +kernel
theorem dX15_mark_0 : decode cX15_mark 0 = .ok (.aload_n 0, 1) := by decide +kernel
theorem dX15_mark_1 : decode cX15_mark 1 = .ok (.getfield 113, 3) := by decide +kernel
theorem dX15_mark_4 : decode cX15_mark 4 = .ok (.ifCond .ne 10, 3) := by decide +kernel
theorem dX15_mark_7 : decode cX15_mark 7 = .ok (.aload_n 0, 1) := by decide +kernel
theorem dX15_mark_8 : decode cX15_mark 8 = .ok (.getfield 120, 3) := by decide +kernel
theorem dX15_mark_11 : decode cX15_mark 11 = .ok (.ifCond .eq 4, 3) := by decide +kernel
theorem dX15_mark_14 : decode cX15_mark 14 = .ok (.return_, 1) := by decide +kernel
theorem dX15_mark_15 : decode cX15_mark 15 = .ok (.aload_n 0, 1) := by decide +kernel
theorem dX15_mark_16 : decode cX15_mark 16 = .ok (.iload_n 1, 1) := by decide +kernel
theorem dX15_mark_17 : decode cX15_mark 17 = .ok (.putfield 120, 3) := by decide +kernel
theorem dX15_mark_20 : decode cX15_mark 20 = .ok (.aload_n 0, 1) := by decide +kernel
theorem dX15_mark_21 : decode cX15_mark 21 = .ok (.aload_n 0, 1) := by decide +kernel
theorem dX15_mark_22 : decode cX15_mark 22 = .ok (.getfield 117, 3) := by decide +kernel
theorem dX15_mark_25 : decode cX15_mark 25 = .ok (.putfield 123, 3) := by decide +kernel
theorem dX15_mark_28 : decode cX15_mark 28 = .ok (.return_, 1) := by decide +kernel
theorem dX15_node_0 : decode cX15_node 0 = .ok (.aload_n 0, 1) := by decide +kernel
theorem dX15_node_1 : decode cX15_node 1 = .ok (.getfield 39, 3) := by decide +kernel
theorem dX15_node_4 : decode cX15_node 4 = .ok (.getfield 135, 3) := by decide +kernel
theorem dX15_node_7 : decode cX15_node 7 = .ok (.istore 4, 2) := by decide +kernel
theorem dX15_node_9 : decode cX15_node 9 = .ok (.aload_n 0, 1) := by decide +kernel
theorem dX15_node_10 : decode cX15_node 10 = .ok (.getfield 39, 3) := by decide +kernel
theorem dX15_node_13 : decode cX15_node 13 = .ok (.getfield 138, 3) := by decide +kernel
theorem dX15_node_16 : decode cX15_node 16 = .ok (.iload 4, 2) := by decide +kernel
theorem dX15_node_18 : decode cX15_node 18 = .ok (.iload_n 1, 1) := by decide +kernel
theorem dX15_node_19 : decode cX15_node 19 = .ok (.iastore, 1) := by decide +kernel
theorem dX15_node_20 : decode cX15_node 20 = .ok (.aload_n 0, 1) := by decide +kernel
theorem dX15_node_21 : decode cX15_node 21 = .ok (.getfield 39, 3) := by decide +kernel
theorem dX15_node_24 : decode cX15_node 24 = .ok (.getfield 141, 3) := by decide +kernel
theorem dX15_node_27 : decode cX15_node 27 = .ok (.iload 4, 2) := by decide +kernel
theorem dX15_node_29 : decode cX15_node 29 = .ok (.iload_n 2, 1) := by decide +kernel
theorem dX15_node_30 : decode cX15_node 30 = .ok (.iastore, 1) := by decide +kernel
theorem dX15_node_31 : decode cX15_node 31 = .ok (.aload_n 0, 1) := by decide +kernel
theorem dX15_node_32 : decode cX15_node 32 = .ok (.getfield 39, 3) := by decide +kernel
theorem dX15_node_35 : decode cX15_node 35 = .ok (.getfield 144, 3) := by decide +kernel
theorem dX15_node_38 : decode cX15_node 38 = .ok (.iload 4, 2) := by decide +kernel
theorem dX15_node_40 : decode cX15_node 40 = .ok (.iload_n 3, 1) := by decide +kernel
theorem dX15_node_41 : decode cX15_node 41 = .ok (.iastore, 1) := by decide +kernel
theorem dX15_node_42 : decode cX15_node 42 = .ok (.aload_n 0, 1) := by decide +kernel
theorem dX15_node_43 : decode cX15_node 43 = .ok (.getfield 39, 3) := by decide +kernel
theorem dX15_node_46 : decode cX15_node 46 = .ok (.dup, 1) := by decide +kernel
theorem dX15_node_47 : decode cX15_node 47 = .ok (.getfield 135, 3) := by decide +kernel
theorem dX15_node_50 : decode cX15_node 50 = .ok (.iconst 1, 1) := by decide +kernel
theorem dX15_node_51 : decode cX15_node 51 = .ok (.iadd, 1) := by decide +kernel
theorem dX15_node_52 : decode cX15_node 52 = .ok (.putfield 135, 3) := by decide +kernel
theorem dX15_node_55 : decode cX15_node 55 = .ok (.iload 4, 2) := by decide +kernel
theorem dX15_node_57 : decode cX15_node 57 = .ok (.ireturn, 1) := by decide +kernel
theorem dX15_isSameName_0 : decode cX15_isSameName 0 = .ok (.aload_n 0, 1) := by decide +kernel
theorem dX15_isSameName_1 : decode cX15_isSameName 1 = .ok (.getfield 26, 3) := by decide +kernel
theorem dX15_isSameName_4 : decode cX15_isSameName 4 = .ok (.iload_n 1, 1) := by decide +kernel
theorem dX15_isSameName_5 : decode cX15_isSameName 5 = .ok (.iaload, 1) := by decide +kernel
theorem dX15_isSameName_6 : decode cX15_isSameName 6 = .ok (.aload_n 0, 1) := by decide +kernel
theorem dX15_isSameName_7 : decode cX15_isSameName 7 = .ok (.getfield 26, 3) := by decide +kernel
theorem dX15_isSameName_10 : decode cX15_isSameName 10 = .ok (.iload_n 2, 1) := by decide +kernel
theorem dX15_isSameName_11 : decode cX15_isSameName 11 = .ok (.iaload, 1) := by decide +kernel
theorem dX15_isSameName_12 : decode cX15_isSameName 12 = .ok (.if_icmp .eq 5, 3) := by decide +kernel
theorem dX15_isSameName_15 : decode cX15_isSameName 15 = .ok (.iconst 0, 1) := by decide +kernel
theorem dX15_isSameName_16 : decode cX15_isSameName 16 = .ok (.ireturn, 1) := by decide +kernel
theorem dX15_isSameName_17 : decode cX15_isSameName 17 = .ok (.iconst 0, 1) := by decide +kernel
theorem dX15_isSameName_18 : decode cX15_isSameName 18 = .ok (.istore_n 3, 1) := by decide +kernel
theorem dX15_isSameName_19 : decode cX15_isSameName 19 = .ok (.iload_n 3, 1) := by decide +kernel
theorem dX15_isSameName_20 : decode cX15_isSameName 20 = .ok (.aload_n 0, 1) := by decide +kernel
theorem dX15_isSameName_21 : decode cX15_isSameName 21 = .ok (.getfield 26, 3) := by decide +kernel
theorem dX15_isSameName_24 : decode cX15_isSameName 24 = .ok (.iload_n 1, 1) := by decide +kernel
theorem dX15_isSameName_25 : decode cX15_isSameName 25 = .ok (.iaload, 1) := by decide +kernel
theorem dX15_isSameName_26 : decode cX15_isSameName 26 = .ok (.if_icmp .ge 40, 3) := by decide +kernel
theorem dX15_isSameName_29 : decode cX15_isSameName 29 = .ok (.aload_n 0, 1) := by decide +kernel
theorem dX15_isSameName_30 : decode cX15_isSameName 30 = .ok (.getfield 9, 3) := by decide +kernel
theorem dX15_isSameName_33 : decode cX15_isSameName 33 = .ok (.aload_n 0, 1) := by decide +kernel
theorem dX15_isSameName_34 : decode cX15_isSameName 34 = .ok (.getfield 23, 3) := by decide +kernel
theorem dX15_isSameName_37 : decode cX15_isSameName 37 = .ok (.iload_n 1, 1) := by decide +kernel
theorem dX15_isSameName_38 : decode cX15_isSameName 38 = .ok (.iaload, 1) := by decide +kernel
theorem dX15_isSameName_39 : decode cX15_isSameName 39 = .ok (.iload_n 3, 1) := by decide +kernel
theorem dX15_isSameName_40 : decode cX15_isSameName 40 = .ok (.iadd, 1) := by decide +kernel
theorem dX15_isSameName_41 : decode cX15_isSameName 41 = .ok (.iaload, 1) := by decide +kernel
theorem dX15_isSameName_42 : decode cX15_isSameName 42 = .ok (.aload_n 0, 1) := by decide +kernel
theorem dX15_isSameName_43 : decode cX15_isSameName 43 = .ok (.getfield 9, 3) := by decide +kernel
theorem dX15_isSameName_46 : decode cX15_isSameName 46 = .ok (.aload_n 0, 1) := by decide +kernel
theorem dX15_isSameName_47 : decode cX15_isSameName 47 = .ok (.getfield 23, 3) := by decide +kernel
theorem dX15_isSameName_50 : decode cX15_isSameName 50 = .ok (.iload_n 2, 1) := by decide +kernel
theorem dX15_isSameName_51 : decode cX15_isSameName 51 = .ok (.iaload, 1) := by decide +kernel
theorem dX15_isSameName_52 : decode cX15_isSameName 52 = .ok (.iload_n 3, 1) := by decide +kernel
theorem dX15_isSameName_53 : decode cX15_isSameName 53 = .ok (.iadd, 1) := by decide +kernel
theorem dX15_isSameName_54 : decode cX15_isSameName 54 = .ok (.iaload, 1) := by decide +kernel
theorem dX15_isSameName_55 : decode cX15_isSameName 55 = .ok (.if_icmp .eq 5, 3) := by decide +kernel
theorem dX15_isSameName_58 : decode cX15_isSameName 58 = .ok (.iconst 0, 1) := by decide +kernel
theorem dX15_isSameName_59 : decode cX15_isSameName 59 = .ok (.ireturn, 1) := by decide +kernel
theorem dX15_isSameName_60 : decode cX15_isSameName 60 = .ok (.iinc 3 1, 3) := by decide +kernel
theorem dX15_isSameName_63 : decode cX15_isSameName 63 = .ok (.goto (-44), 3) := by decide +kernel
theorem dX15_isSameName_66 : decode cX15_isSameName 66 = .ok (.iconst 1, 1) := by decide +kernel
theorem dX15_isSameName_67 : decode cX15_isSameName 67 = .ok (.ireturn, 1) := by decide +kernel
theorem dX15_known_0 : decode cX15_known 0 = .ok (.iconst 0, 1) := by decide +kernel
theorem dX15_known_1 : decode cX15_known 1 = .ok (.istore_n 1, 1) := by decide +kernel
theorem dX15_known_2 : decode cX15_known 2 = .ok (.iload_n 1, 1) := by decide +kernel
theorem dX15_known_3 : decode cX15_known 3 = .ok (.aload_n 0, 1) := by decide +kernel
theorem dX15_known_4 : decode cX15_known 4 = .ok (.getfield 39, 3) := by decide +kernel
theorem dX15_known_7 : decode cX15_known 7 = .ok (.getfield 147, 3) := by decide +kernel
theorem dX15_known_10 : decode cX15_known 10 = .ok (.if_icmp .ge 28, 3) := by decide +kernel
theorem dX15_known_13 : decode cX15_known 13 = .ok (.aload_n 0, 1) := by decide +kernel
theorem dX15_known_14 : decode cX15_known 14 = .ok (.aload_n 0, 1) := by decide +kernel
theorem dX15_known_15 : decode cX15_known 15 = .ok (.getfield 29, 3) := by decide +kernel
theorem dX15_known_18 : decode cX15_known 18 = .ok (.iload_n 1, 1) := by decide +kernel
theorem dX15_known_19 : decode cX15_known 19 = .ok (.iaload, 1) := by decide +kernel
theorem dX15_known_20 : decode cX15_known 20 = .ok (.aload_n 0, 1) := by decide +kernel
theorem dX15_known_21 : decode cX15_known 21 = .ok (.getfield 117, 3) := by decide +kernel
theorem dX15_known_24 : decode cX15_known 24 = .ok (.invokevirtual 150, 3) := by decide +kernel
theorem dX15_known_27 : decode cX15_known 27 = .ok (.ifCond .eq 5, 3) := by decide +kernel
theorem dX15_known_30 : decode cX15_known 30 = .ok (.iload_n 1, 1) := by decide +kernel
theorem dX15_known_31 : decode cX15_known 31 = .ok (.ireturn, 1) := by decide +kernel
theorem dX15_known_32 : decode cX15_known 32 = .ok (.iinc 1 1, 3) := by decide +kernel
theorem dX15_known_35 : decode cX15_known 35 = .ok (.goto (-33), 3) := by decide +kernel
theorem dX15_known_38 : decode cX15_known 38 = .ok (.iconst (-1), 1) := by decide +kernel
theorem dX15_known_39 : decode cX15_known 39 = .ok (.ireturn, 1) := by decide +kernel
theorem dX15_name_0 : decode cX15_name 0 = .ok (.aload_n 0, 1) := by decide +kernel
theorem dX15_name_1 : decode cX15_name 1 = .ok (.bipush 30, 2) := by decide +kernel
theorem dX15_name_3 : decode cX15_name 3 = .ok (.invokevirtual 126, 3) := by decide +kernel
theorem dX15_name_6 : decode cX15_name 6 = .ok (.ifCond .eq 10, 3) := by decide +kernel
theorem dX15_name_9 : decode cX15_name 9 = .ok (.aload_n 0, 1) := by decide +kernel
theorem dX15_name_10 : decode cX15_name 10 = .ok (.invokevirtual 154, 3) := by decide +kernel
theorem dX15_name_13 : decode cX15_name 13 = .ok (.goto 4, 3) := by decide +kernel
theorem dX15_name_16 : decode cX15_name 16 = .ok (.iconst 0, 1) := by decide +kernel
theorem dX15_name_17 : decode cX15_name 17 = .ok (.istore_n 1, 1) := by decide +kernel
theorem dX15_name_18 : decode cX15_name 18 = .ok (.iload_n 1, 1) := by decide +kernel
theorem dX15_name_19 : decode cX15_name 19 = .ok (.iconst (-1), 1) := by decide +kernel
theorem dX15_name_20 : decode cX15_name 20 = .ok (.if_icmp .ne 8, 3) := by decide +kernel
theorem dX15_name_23 : decode cX15_name 23 = .ok (.aload_n 0, 1) := by decide +kernel
theorem dX15_name_24 : decode cX15_name 24 = .ok (.iconst 3, 1) := by decide +kernel
theorem dX15_name_25 : decode cX15_name 25 = .ok (.invokevirtual 157, 3) := by decide +kernel
theorem dX15_name_28 : decode cX15_name 28 = .ok (.aload_n 0, 1) := by decide +kernel
theorem dX15_name_29 : decode cX15_name 29 = .ok (.bipush 30, 2) := by decide +kernel
theorem dX15_name_31 : decode cX15_name 31 = .ok (.invokevirtual 161, 3) := by decide +kernel
theorem dX15_name_34 : decode cX15_name 34 = .ok (.iconst 0, 1) := by decide +kernel
theorem dX15_name_35 : decode cX15_name 35 = .ok (.iload_n 1, 1) := by decide +kernel
theorem dX15_name_36 : decode cX15_name 36 = .ok (.invokestatic 164, 3) := by decide +kernel
theorem dX15_name_39 : decode cX15_name 39 = .ok (.ireturn, 1) := by decide +kernel
theorem dX15_inBrackets_0 : decode cX15_inBrackets 0 = .ok (.aload_n 0, 1) := by decide +kernel
theorem dX15_inBrackets_1 : decode cX15_inBrackets 1 = .ok (.invokevirtual 169, 3) := by decide +kernel
theorem dX15_inBrackets_4 : decode cX15_inBrackets 4 = .ok (.aload_n 0, 1) := by decide +kernel
theorem dX15_inBrackets_5 : decode cX15_inBrackets 5 = .ok (.invokevirtual 172, 3) := by decide +kernel
theorem dX15_inBrackets_8 : decode cX15_inBrackets 8 = .ok (.istore_n 1, 1) := by decide +kernel
theorem dX15_inBrackets_9 : decode cX15_inBrackets 9 = .ok (.aload_n 0, 1) := by decide +kernel
theorem dX15_inBrackets_10 : decode cX15_inBrackets 10 = .ok (.bipush 50, 2) := by decide +kernel
theorem dX15_inBrackets_12 : decode cX15_inBrackets 12 = .ok (.invokevirtual 161, 3) := by decide +kernel
theorem dX15_inBrackets_15 : decode cX15_inBrackets 15 = .ok (.aload_n 0, 1) := by decide +kernel
theorem dX15_inBrackets_16 : decode cX15_inBrackets 16 = .ok (.dup, 1) := by decide +kernel
theorem dX15_inBrackets_17 : decode cX15_inBrackets 17 = .ok (.getfield 132, 3) := by decide +kernel
theorem dX15_inBrackets_20 : decode cX15_inBrackets 20 = .ok (.iconst 1, 1) := by decide +kernel
theorem dX15_inBrackets_21 : decode cX15_inBrackets 21 = .ok (.isub, 1) := by decide +kernel
theorem dX15_inBrackets_22 : decode cX15_inBrackets 22 = .ok (.putfield 132, 3) := by decide +kernel
theorem dX15_inBrackets_25 : decode cX15_inBrackets 25 = .ok (.iload_n 1, 1) := by decide +kernel
theorem dX15_inBrackets_26 : decode cX15_inBrackets 26 = .ok (.ireturn, 1) := by decide +kernel
theorem dX15_ofTwo_0 : decode cX15_ofTwo 0 = .ok (.aload_n 0, 1) := by decide +kernel
theorem dX15_ofTwo_1 : decode cX15_ofTwo 1 = .ok (.dup, 1) := by decide +kernel
theorem dX15_ofTwo_2 : decode cX15_ofTwo 2 = .ok (.getfield 117, 3) := by decide +kernel
theorem dX15_ofTwo_5 : decode cX15_ofTwo 5 = .ok (.iconst 1, 1) := by decide +kernel
theorem dX15_ofTwo_6 : decode cX15_ofTwo 6 = .ok (.iadd, 1) := by decide +kernel
theorem dX15_ofTwo_7 : decode cX15_ofTwo 7 = .ok (.putfield 117, 3) := by decide +kernel
theorem dX15_ofTwo_10 : decode cX15_ofTwo 10 = .ok (.aload_n 0, 1) := by decide +kernel
theorem dX15_ofTwo_11 : decode cX15_ofTwo 11 = .ok (.bipush 49, 2) := by decide +kernel
theorem dX15_ofTwo_13 : decode cX15_ofTwo 13 = .ok (.invokevirtual 126, 3) := by decide +kernel
theorem dX15_ofTwo_16 : decode cX15_ofTwo 16 = .ok (.ifCond .ne 9, 3) := by decide +kernel
theorem dX15_ofTwo_19 : decode cX15_ofTwo 19 = .ok (.aload_n 0, 1) := by decide +kernel
theorem dX15_ofTwo_20 : decode cX15_ofTwo 20 = .ok (.invokevirtual 129, 3) := by decide +kernel
theorem dX15_ofTwo_23 : decode cX15_ofTwo 23 = .ok (.iconst 0, 1) := by decide +kernel
theorem dX15_ofTwo_24 : decode cX15_ofTwo 24 = .ok (.ireturn, 1) := by decide +kernel
theorem dX15_ofTwo_25 : decode cX15_ofTwo 25 = .ok (.aload_n 0, 1) := by decide +kernel
theorem dX15_ofTwo_26 : decode cX15_ofTwo 26 = .ok (.invokevirtual 169, 3) := by decide +kernel
theorem dX15_ofTwo_29 : decode cX15_ofTwo 29 = .ok (.aload_n 0, 1) := by decide +kernel
theorem dX15_ofTwo_30 : decode cX15_ofTwo 30 = .ok (.invokevirtual 172, 3) := by decide +kernel
theorem dX15_ofTwo_33 : decode cX15_ofTwo 33 = .ok (.istore_n 2, 1) := by decide +kernel
theorem dX15_ofTwo_34 : decode cX15_ofTwo 34 = .ok (.aload_n 0, 1) := by decide +kernel
theorem dX15_ofTwo_35 : decode cX15_ofTwo 35 = .ok (.bipush 54, 2) := by decide +kernel
theorem dX15_ofTwo_37 : decode cX15_ofTwo 37 = .ok (.invokevirtual 161, 3) := by decide +kernel
theorem dX15_ofTwo_40 : decode cX15_ofTwo 40 = .ok (.aload_n 0, 1) := by decide +kernel
theorem dX15_ofTwo_41 : decode cX15_ofTwo 41 = .ok (.invokevirtual 172, 3) := by decide +kernel
theorem dX15_ofTwo_44 : decode cX15_ofTwo 44 = .ok (.istore_n 3, 1) := by decide +kernel
theorem dX15_ofTwo_45 : decode cX15_ofTwo 45 = .ok (.aload_n 0, 1) := by decide +kernel
theorem dX15_ofTwo_46 : decode cX15_ofTwo 46 = .ok (.bipush 50, 2) := by decide +kernel
theorem dX15_ofTwo_48 : decode cX15_ofTwo 48 = .ok (.invokevirtual 161, 3) := by decide +kernel
theorem dX15_ofTwo_51 : decode cX15_ofTwo 51 = .ok (.aload_n 0, 1) := by decide +kernel
theorem dX15_ofTwo_52 : decode cX15_ofTwo 52 = .ok (.dup, 1) := by decide +kernel
theorem dX15_ofTwo_53 : decode cX15_ofTwo 53 = .ok (.getfield 132, 3) := by decide +kernel
theorem dX15_ofTwo_56 : decode cX15_ofTwo 56 = .ok (.iconst 1, 1) := by decide +kernel
theorem dX15_ofTwo_57 : decode cX15_ofTwo 57 = .ok (.isub, 1) := by decide +kernel
theorem dX15_ofTwo_58 : decode cX15_ofTwo 58 = .ok (.putfield 132, 3) := by decide +kernel
theorem dX15_ofTwo_61 : decode cX15_ofTwo 61 = .ok (.aload_n 0, 1) := by decide +kernel
theorem dX15_ofTwo_62 : decode cX15_ofTwo 62 = .ok (.iload_n 1, 1) := by decide +kernel
theorem dX15_ofTwo_63 : decode cX15_ofTwo 63 = .ok (.iload_n 2, 1) := by decide +kernel
theorem dX15_ofTwo_64 : decode cX15_ofTwo 64 = .ok (.iload_n 3, 1) := by decide +kernel
theorem dX15_ofTwo_65 : decode cX15_ofTwo 65 = .ok (.invokevirtual 175, 3) := by decide +kernel
theorem dX15_ofTwo_68 : decode cX15_ofTwo 68 = .ok (.ireturn, 1) := by decide +kernel
theorem dX15_value_0 : decode cX15_value 0 = .ok (.aload_n 0, 1) := by decide +kernel
theorem dX15_value_1 : decode cX15_value 1 = .ok (.bipush 31, 2) := by decide +kernel
theorem dX15_value_3 : decode cX15_value 3 = .ok (.invokevirtual 126, 3) := by decide +kernel
theorem dX15_value_6 : decode cX15_value 6 = .ok (.ifCond .eq 32, 3) := by decide +kernel
theorem dX15_value_9 : decode cX15_value 9 = .ok (.aload_n 0, 1) := by decide +kernel
theorem dX15_value_10 : decode cX15_value 10 = .ok (.dup, 1) := by decide +kernel
theorem dX15_value_11 : decode cX15_value 11 = .ok (.getfield 117, 3) := by decide +kernel
theorem dX15_value_14 : decode cX15_value 14 = .ok (.iconst 1, 1) := by decide +kernel
theorem dX15_value_15 : decode cX15_value 15 = .ok (.iadd, 1) := by decide +kernel
theorem dX15_value_16 : decode cX15_value 16 = .ok (.putfield 117, 3) := by decide +kernel
theorem dX15_value_19 : decode cX15_value 19 = .ok (.aload_n 0, 1) := by decide +kernel
theorem dX15_value_20 : decode cX15_value 20 = .ok (.bipush 31, 2) := by decide +kernel
theorem dX15_value_22 : decode cX15_value 22 = .ok (.aload_n 0, 1) := by decide +kernel
theorem dX15_value_23 : decode cX15_value 23 = .ok (.getfield 20, 3) := by decide +kernel
theorem dX15_value_26 : decode cX15_value 26 = .ok (.aload_n 0, 1) := by decide +kernel
theorem dX15_value_27 : decode cX15_value 27 = .ok (.getfield 117, 3) := by decide +kernel
theorem dX15_value_30 : decode cX15_value 30 = .ok (.iconst 1, 1) := by decide +kernel
theorem dX15_value_31 : decode cX15_value 31 = .ok (.isub, 1) := by decide +kernel
theorem dX15_value_32 : decode cX15_value 32 = .ok (.iaload, 1) := by decide +kernel
theorem dX15_value_33 : decode cX15_value 33 = .ok (.iconst 0, 1) := by decide +kernel
theorem dX15_value_34 : decode cX15_value 34 = .ok (.invokevirtual 175, 3) := by decide +kernel
theorem dX15_value_37 : decode cX15_value 37 = .ok (.ireturn, 1) := by decide +kernel
theorem dX15_value_38 : decode cX15_value 38 = .ok (.aload_n 0, 1) := by decide +kernel
theorem dX15_value_39 : decode cX15_value 39 = .ok (.bipush 14, 2) := by decide +kernel
theorem dX15_value_41 : decode cX15_value 41 = .ok (.invokevirtual 126, 3) := by decide +kernel
theorem dX15_value_44 : decode cX15_value 44 = .ok (.ifCond .ne 12, 3) := by decide +kernel
theorem dX15_value_47 : decode cX15_value 47 = .ok (.aload_n 0, 1) := by decide +kernel
theorem dX15_value_48 : decode cX15_value 48 = .ok (.bipush 15, 2) := by decide +kernel
theorem dX15_value_50 : decode cX15_value 50 = .ok (.invokevirtual 126, 3) := by decide +kernel
theorem dX15_value_53 : decode cX15_value 53 = .ok (.ifCond .eq 31, 3) := by decide +kernel
theorem dX15_value_56 : decode cX15_value 56 = .ok (.aload_n 0, 1) := by decide +kernel
theorem dX15_value_57 : decode cX15_value 57 = .ok (.dup, 1) := by decide +kernel
theorem dX15_value_58 : decode cX15_value 58 = .ok (.getfield 117, 3) := by decide +kernel
theorem dX15_value_61 : decode cX15_value 61 = .ok (.iconst 1, 1) := by decide +kernel
theorem dX15_value_62 : decode cX15_value 62 = .ok (.iadd, 1) := by decide +kernel
theorem dX15_value_63 : decode cX15_value 63 = .ok (.putfield 117, 3) := by decide +kernel
theorem dX15_value_66 : decode cX15_value 66 = .ok (.aload_n 0, 1) := by decide +kernel
theorem dX15_value_67 : decode cX15_value 67 = .ok (.aload_n 0, 1) := by decide +kernel
theorem dX15_value_68 : decode cX15_value 68 = .ok (.getfield 17, 3) := by decide +kernel
theorem dX15_value_71 : decode cX15_value 71 = .ok (.aload_n 0, 1) := by decide +kernel
theorem dX15_value_72 : decode cX15_value 72 = .ok (.getfield 117, 3) := by decide +kernel
theorem dX15_value_75 : decode cX15_value 75 = .ok (.iconst 1, 1) := by decide +kernel
theorem dX15_value_76 : decode cX15_value 76 = .ok (.isub, 1) := by decide +kernel
theorem dX15_value_77 : decode cX15_value 77 = .ok (.iaload, 1) := by decide +kernel
theorem dX15_value_78 : decode cX15_value 78 = .ok (.iconst 0, 1) := by decide +kernel
theorem dX15_value_79 : decode cX15_value 79 = .ok (.iconst 0, 1) := by decide +kernel
theorem dX15_value_80 : decode cX15_value 80 = .ok (.invokevirtual 175, 3) := by decide +kernel
theorem dX15_value_83 : decode cX15_value 83 = .ok (.ireturn, 1) := by decide +kernel
theorem dX15_value_84 : decode cX15_value 84 = .ok (.aload_n 0, 1) := by decide +kernel
theorem dX15_value_85 : decode cX15_value 85 = .ok (.bipush 16, 2) := by decide +kernel
theorem dX15_value_87 : decode cX15_value 87 = .ok (.invokevirtual 126, 3) := by decide +kernel
theorem dX15_value_90 : decode cX15_value 90 = .ok (.ifCond .ne 12, 3) := by decide +kernel
theorem dX15_value_93 : decode cX15_value 93 = .ok (.aload_n 0, 1) := by decide +kernel
theorem dX15_value_94 : decode cX15_value 94 = .ok (.bipush 17, 2) := by decide +kernel
theorem dX15_value_96 : decode cX15_value 96 = .ok (.invokevirtual 126, 3) := by decide +kernel
theorem dX15_value_99 : decode cX15_value 99 = .ok (.ifCond .eq 40, 3) := by decide +kernel
theorem dX15_value_102 : decode cX15_value 102 = .ok (.aload_n 0, 1) := by decide +kernel
theorem dX15_value_103 : decode cX15_value 103 = .ok (.getfield 17, 3) := by decide +kernel
theorem dX15_value_106 : decode cX15_value 106 = .ok (.aload_n 0, 1) := by decide +kernel
theorem dX15_value_107 : decode cX15_value 107 = .ok (.getfield 117, 3) := by decide +kernel
theorem dX15_value_110 : decode cX15_value 110 = .ok (.iaload, 1) := by decide +kernel
theorem dX15_value_111 : decode cX15_value 111 = .ok (.istore_n 1, 1) := by decide +kernel
theorem dX15_value_112 : decode cX15_value 112 = .ok (.aload_n 0, 1) := by decide +kernel
theorem dX15_value_113 : decode cX15_value 113 = .ok (.dup, 1) := by decide +kernel
theorem dX15_value_114 : decode cX15_value 114 = .ok (.getfield 117, 3) := by decide +kernel
theorem dX15_value_117 : decode cX15_value 117 = .ok (.iconst 1, 1) := by decide +kernel
theorem dX15_value_118 : decode cX15_value 118 = .ok (.iadd, 1) := by decide +kernel
theorem dX15_value_119 : decode cX15_value 119 = .ok (.putfield 117, 3) := by decide +kernel
theorem dX15_value_122 : decode cX15_value 122 = .ok (.aload_n 0, 1) := by decide +kernel
theorem dX15_value_123 : decode cX15_value 123 = .ok (.bipush 18, 2) := by decide +kernel
theorem dX15_value_125 : decode cX15_value 125 = .ok (.invokevirtual 161, 3) := by decide +kernel
theorem dX15_value_128 : decode cX15_value 128 = .ok (.aload_n 0, 1) := by decide +kernel
theorem dX15_value_129 : decode cX15_value 129 = .ok (.iload_n 1, 1) := by decide +kernel
theorem dX15_value_130 : decode cX15_value 130 = .ok (.aload_n 0, 1) := by decide +kernel
theorem dX15_value_131 : decode cX15_value 131 = .ok (.invokevirtual 179, 3) := by decide +kernel
theorem dX15_value_134 : decode cX15_value 134 = .ok (.iconst 0, 1) := by decide +kernel
theorem dX15_value_135 : decode cX15_value 135 = .ok (.invokevirtual 175, 3) := by decide +kernel
theorem dX15_value_138 : decode cX15_value 138 = .ok (.ireturn, 1) := by decide +kernel
theorem dX15_value_139 : decode cX15_value 139 = .ok (.aload_n 0, 1) := by decide +kernel
theorem dX15_value_140 : decode cX15_value 140 = .ok (.bipush 24, 2) := by decide +kernel
theorem dX15_value_142 : decode cX15_value 142 = .ok (.invokevirtual 126, 3) := by decide +kernel
theorem dX15_value_145 : decode cX15_value 145 = .ok (.ifCond .ne 12, 3) := by decide +kernel
theorem dX15_value_148 : decode cX15_value 148 = .ok (.aload_n 0, 1) := by decide +kernel
theorem dX15_value_149 : decode cX15_value 149 = .ok (.bipush 25, 2) := by decide +kernel
theorem dX15_value_151 : decode cX15_value 151 = .ok (.invokevirtual 126, 3) := by decide +kernel
theorem dX15_value_154 : decode cX15_value 154 = .ok (.ifCond .eq 17, 3) := by decide +kernel
theorem dX15_value_157 : decode cX15_value 157 = .ok (.aload_n 0, 1) := by decide +kernel
theorem dX15_value_158 : decode cX15_value 158 = .ok (.aload_n 0, 1) := by decide +kernel
theorem dX15_value_159 : decode cX15_value 159 = .ok (.getfield 17, 3) := by decide +kernel
theorem dX15_value_162 : decode cX15_value 162 = .ok (.aload_n 0, 1) := by decide +kernel
theorem dX15_value_163 : decode cX15_value 163 = .ok (.getfield 117, 3) := by decide +kernel
theorem dX15_value_166 : decode cX15_value 166 = .ok (.iaload, 1) := by decide +kernel
theorem dX15_value_167 : decode cX15_value 167 = .ok (.invokevirtual 182, 3) := by decide +kernel
theorem dX15_value_170 : decode cX15_value 170 = .ok (.ireturn, 1) := by decide +kernel
theorem dX15_value_171 : decode cX15_value 171 = .ok (.aload_n 0, 1) := by decide +kernel
theorem dX15_value_172 : decode cX15_value 172 = .ok (.bipush 49, 2) := by decide +kernel
theorem dX15_value_174 : decode cX15_value 174 = .ok (.invokevirtual 126, 3) := by decide +kernel
theorem dX15_value_177 : decode cX15_value 177 = .ok (.ifCond .eq 8, 3) := by decide +kernel
theorem dX15_value_180 : decode cX15_value 180 = .ok (.aload_n 0, 1) := by decide +kernel
theorem dX15_value_181 : decode cX15_value 181 = .ok (.invokevirtual 185, 3) := by decide +kernel
theorem dX15_value_184 : decode cX15_value 184 = .ok (.ireturn, 1) := by decide +kernel
theorem dX15_value_185 : decode cX15_value 185 = .ok (.aload_n 0, 1) := by decide +kernel
theorem dX15_value_186 : decode cX15_value 186 = .ok (.bipush 41, 2) := by decide +kernel
theorem dX15_value_188 : decode cX15_value 188 = .ok (.invokevirtual 126, 3) := by decide +kernel
theorem dX15_value_191 : decode cX15_value 191 = .ok (.ifCond .ne 9, 3) := by decide +kernel
theorem dX15_value_194 : decode cX15_value 194 = .ok (.aload_n 0, 1) := by decide +kernel
theorem dX15_value_195 : decode cX15_value 195 = .ok (.invokevirtual 129, 3) := by decide +kernel
theorem dX15_value_198 : decode cX15_value 198 = .ok (.iconst 0, 1) := by decide +kernel
theorem dX15_value_199 : decode cX15_value 199 = .ok (.ireturn, 1) := by decide +kernel
theorem dX15_value_200 : decode cX15_value 200 = .ok (.aload_n 0, 1) := by decide +kernel
theorem dX15_value_201 : decode cX15_value 201 = .ok (.invokevirtual 169, 3) := by decide +kernel
theorem dX15_value_204 : decode cX15_value 204 = .ok (.aload_n 0, 1) := by decide +kernel
theorem dX15_value_205 : decode cX15_value 205 = .ok (.invokevirtual 188, 3) := by decide +kernel
theorem dX15_value_208 : decode cX15_value 208 = .ok (.istore_n 1, 1) := by decide +kernel
theorem dX15_value_209 : decode cX15_value 209 = .ok (.aload_n 0, 1) := by decide +kernel
theorem dX15_value_210 : decode cX15_value 210 = .ok (.dup, 1) := by decide +kernel
theorem dX15_value_211 : decode cX15_value 211 = .ok (.getfield 132, 3) := by decide +kernel
theorem dX15_value_214 : decode cX15_value 214 = .ok (.iconst 1, 1) := by decide +kernel
theorem dX15_value_215 : decode cX15_value 215 = .ok (.isub, 1) := by decide +kernel
theorem dX15_value_216 : decode cX15_value 216 = .ok (.putfield 132, 3) := by decide +kernel
theorem dX15_value_219 : decode cX15_value 219 = .ok (.aload_n 0, 1) := by decide +kernel
theorem dX15_value_220 : decode cX15_value 220 = .ok (.bipush 60, 2) := by decide +kernel
theorem dX15_value_222 : decode cX15_value 222 = .ok (.iload_n 1, 1) := by decide +kernel
theorem dX15_value_223 : decode cX15_value 223 = .ok (.iconst 0, 1) := by decide +kernel
theorem dX15_value_224 : decode cX15_value 224 = .ok (.invokevirtual 175, 3) := by decide +kernel
theorem dX15_value_227 : decode cX15_value 227 = .ok (.ireturn, 1) := by decide +kernel
theorem dX15_product_0 : decode cX15_product 0 = .ok (.aload_n 0, 1) := by decide +kernel
theorem dX15_product_1 : decode cX15_product 1 = .ok (.invokevirtual 188, 3) := by decide +kernel
theorem dX15_product_4 : decode cX15_product 4 = .ok (.istore_n 1, 1) := by decide +kernel
theorem dX15_product_5 : decode cX15_product 5 = .ok (.aload_n 0, 1) := by decide +kernel
theorem dX15_product_6 : decode cX15_product 6 = .ok (.bipush 42, 2) := by decide +kernel
theorem dX15_product_8 : decode cX15_product 8 = .ok (.invokevirtual 126, 3) := by decide +kernel
theorem dX15_product_11 : decode cX15_product 11 = .ok (.ifCond .ne 12, 3) := by decide +kernel
theorem dX15_product_14 : decode cX15_product 14 = .ok (.aload_n 0, 1) := by decide +kernel
theorem dX15_product_15 : decode cX15_product 15 = .ok (.bipush 43, 2) := by decide +kernel
theorem dX15_product_17 : decode cX15_product 17 = .ok (.invokevirtual 126, 3) := by decide +kernel
theorem dX15_product_20 : decode cX15_product 20 = .ok (.ifCond .eq 37, 3) := by decide +kernel
theorem dX15_product_23 : decode cX15_product 23 = .ok (.aload_n 0, 1) := by decide +kernel
theorem dX15_product_24 : decode cX15_product 24 = .ok (.getfield 17, 3) := by decide +kernel
theorem dX15_product_27 : decode cX15_product 27 = .ok (.aload_n 0, 1) := by decide +kernel
theorem dX15_product_28 : decode cX15_product 28 = .ok (.getfield 117, 3) := by decide +kernel
theorem dX15_product_31 : decode cX15_product 31 = .ok (.iaload, 1) := by decide +kernel
theorem dX15_product_32 : decode cX15_product 32 = .ok (.istore_n 2, 1) := by decide +kernel
theorem dX15_product_33 : decode cX15_product 33 = .ok (.aload_n 0, 1) := by decide +kernel
theorem dX15_product_34 : decode cX15_product 34 = .ok (.dup, 1) := by decide +kernel
theorem dX15_product_35 : decode cX15_product 35 = .ok (.getfield 117, 3) := by decide +kernel
theorem dX15_product_38 : decode cX15_product 38 = .ok (.iconst 1, 1) := by decide +kernel
theorem dX15_product_39 : decode cX15_product 39 = .ok (.iadd, 1) := by decide +kernel
theorem dX15_product_40 : decode cX15_product 40 = .ok (.putfield 117, 3) := by decide +kernel
theorem dX15_product_43 : decode cX15_product 43 = .ok (.aload_n 0, 1) := by decide +kernel
theorem dX15_product_44 : decode cX15_product 44 = .ok (.iload_n 2, 1) := by decide +kernel
theorem dX15_product_45 : decode cX15_product 45 = .ok (.iload_n 1, 1) := by decide +kernel
theorem dX15_product_46 : decode cX15_product 46 = .ok (.aload_n 0, 1) := by decide +kernel
theorem dX15_product_47 : decode cX15_product 47 = .ok (.invokevirtual 188, 3) := by decide +kernel
theorem dX15_product_50 : decode cX15_product 50 = .ok (.invokevirtual 175, 3) := by decide +kernel
theorem dX15_product_53 : decode cX15_product 53 = .ok (.istore_n 1, 1) := by decide +kernel
theorem dX15_product_54 : decode cX15_product 54 = .ok (.goto (-49), 3) := by decide +kernel
theorem dX15_product_57 : decode cX15_product 57 = .ok (.iload_n 1, 1) := by decide +kernel
theorem dX15_product_58 : decode cX15_product 58 = .ok (.ireturn, 1) := by decide +kernel
theorem dX15_sum_0 : decode cX15_sum 0 = .ok (.aload_n 0, 1) := by decide +kernel
theorem dX15_sum_1 : decode cX15_sum 1 = .ok (.invokevirtual 190, 3) := by decide +kernel
theorem dX15_sum_4 : decode cX15_sum 4 = .ok (.istore_n 1, 1) := by decide +kernel
theorem dX15_sum_5 : decode cX15_sum 5 = .ok (.aload_n 0, 1) := by decide +kernel
theorem dX15_sum_6 : decode cX15_sum 6 = .ok (.bipush 40, 2) := by decide +kernel
theorem dX15_sum_8 : decode cX15_sum 8 = .ok (.invokevirtual 126, 3) := by decide +kernel
theorem dX15_sum_11 : decode cX15_sum 11 = .ok (.ifCond .ne 12, 3) := by decide +kernel
theorem dX15_sum_14 : decode cX15_sum 14 = .ok (.aload_n 0, 1) := by decide +kernel
theorem dX15_sum_15 : decode cX15_sum 15 = .ok (.bipush 41, 2) := by decide +kernel
theorem dX15_sum_17 : decode cX15_sum 17 = .ok (.invokevirtual 126, 3) := by decide +kernel
theorem dX15_sum_20 : decode cX15_sum 20 = .ok (.ifCond .eq 37, 3) := by decide +kernel
theorem dX15_sum_23 : decode cX15_sum 23 = .ok (.aload_n 0, 1) := by decide +kernel
theorem dX15_sum_24 : decode cX15_sum 24 = .ok (.getfield 17, 3) := by decide +kernel
theorem dX15_sum_27 : decode cX15_sum 27 = .ok (.aload_n 0, 1) := by decide +kernel
theorem dX15_sum_28 : decode cX15_sum 28 = .ok (.getfield 117, 3) := by decide +kernel
theorem dX15_sum_31 : decode cX15_sum 31 = .ok (.iaload, 1) := by decide +kernel
theorem dX15_sum_32 : decode cX15_sum 32 = .ok (.istore_n 2, 1) := by decide +kernel
theorem dX15_sum_33 : decode cX15_sum 33 = .ok (.aload_n 0, 1) := by decide +kernel
theorem dX15_sum_34 : decode cX15_sum 34 = .ok (.dup, 1) := by decide +kernel
theorem dX15_sum_35 : decode cX15_sum 35 = .ok (.getfield 117, 3) := by decide +kernel
theorem dX15_sum_38 : decode cX15_sum 38 = .ok (.iconst 1, 1) := by decide +kernel
theorem dX15_sum_39 : decode cX15_sum 39 = .ok (.iadd, 1) := by decide +kernel
theorem dX15_sum_40 : decode cX15_sum 40 = .ok (.putfield 117, 3) := by decide +kernel
theorem dX15_sum_43 : decode cX15_sum 43 = .ok (.aload_n 0, 1) := by decide +kernel
theorem dX15_sum_44 : decode cX15_sum 44 = .ok (.iload_n 2, 1) := by decide +kernel
theorem dX15_sum_45 : decode cX15_sum 45 = .ok (.iload_n 1, 1) := by decide +kernel
theorem dX15_sum_46 : decode cX15_sum 46 = .ok (.aload_n 0, 1) := by decide +kernel
theorem dX15_sum_47 : decode cX15_sum 47 = .ok (.invokevirtual 190, 3) := by decide +kernel
theorem dX15_sum_50 : decode cX15_sum 50 = .ok (.invokevirtual 175, 3) := by decide +kernel
theorem dX15_sum_53 : decode cX15_sum 53 = .ok (.istore_n 1, 1) := by decide +kernel
theorem dX15_sum_54 : decode cX15_sum 54 = .ok (.goto (-49), 3) := by decide +kernel
theorem dX15_sum_57 : decode cX15_sum 57 = .ok (.iload_n 1, 1) := by decide +kernel
theorem dX15_sum_58 : decode cX15_sum 58 = .ok (.ireturn, 1) := by decide +kernel
theorem dX15_comparison_0 : decode cX15_comparison 0 = .ok (.aload_n 0, 1) := by decide +kernel
theorem dX15_comparison_1 : decode cX15_comparison 1 = .ok (.invokevirtual 172, 3) := by decide +kernel
theorem dX15_comparison_4 : decode cX15_comparison 4 = .ok (.istore_n 1, 1) := by decide +kernel
theorem dX15_comparison_5 : decode cX15_comparison 5 = .ok (.aload_n 0, 1) := by decide +kernel
theorem dX15_comparison_6 : decode cX15_comparison 6 = .ok (.getfield 17, 3) := by decide +kernel
theorem dX15_comparison_9 : decode cX15_comparison 9 = .ok (.aload_n 0, 1) := by decide +kernel
theorem dX15_comparison_10 : decode cX15_comparison 10 = .ok (.getfield 117, 3) := by decide +kernel
theorem dX15_comparison_13 : decode cX15_comparison 13 = .ok (.iaload, 1) := by decide +kernel
theorem dX15_comparison_14 : decode cX15_comparison 14 = .ok (.istore_n 2, 1) := by decide +kernel
theorem dX15_comparison_15 : decode cX15_comparison 15 = .ok (.aload_n 0, 1) := by decide +kernel
theorem dX15_comparison_16 : decode cX15_comparison 16 = .ok (.getfield 113, 3) := by decide +kernel
theorem dX15_comparison_19 : decode cX15_comparison 19 = .ok (.ifCond .ne 14, 3) := by decide +kernel
theorem dX15_comparison_22 : decode cX15_comparison 22 = .ok (.iload_n 2, 1) := by decide +kernel
theorem dX15_comparison_23 : decode cX15_comparison 23 = .ok (.bipush 44, 2) := by decide +kernel
theorem dX15_comparison_25 : decode cX15_comparison 25 = .ok (.bipush 48, 2) := by decide +kernel
theorem dX15_comparison_27 : decode cX15_comparison 27 = .ok (.invokestatic 65, 3) := by decide +kernel
theorem dX15_comparison_30 : decode cX15_comparison 30 = .ok (.ifCond .ne 9, 3) := by decide +kernel
theorem dX15_comparison_33 : decode cX15_comparison 33 = .ok (.aload_n 0, 1) := by decide +kernel
theorem dX15_comparison_34 : decode cX15_comparison 34 = .ok (.invokevirtual 129, 3) := by decide +kernel
theorem dX15_comparison_37 : decode cX15_comparison 37 = .ok (.iconst 0, 1) := by decide +kernel
theorem dX15_comparison_38 : decode cX15_comparison 38 = .ok (.ireturn, 1) := by decide +kernel
theorem dX15_comparison_39 : decode cX15_comparison 39 = .ok (.aload_n 0, 1) := by decide +kernel
theorem dX15_comparison_40 : decode cX15_comparison 40 = .ok (.dup, 1) := by decide +kernel
theorem dX15_comparison_41 : decode cX15_comparison 41 = .ok (.getfield 117, 3) := by decide +kernel
theorem dX15_comparison_44 : decode cX15_comparison 44 = .ok (.iconst 1, 1) := by decide +kernel
theorem dX15_comparison_45 : decode cX15_comparison 45 = .ok (.iadd, 1) := by decide +kernel
theorem dX15_comparison_46 : decode cX15_comparison 46 = .ok (.putfield 117, 3) := by decide +kernel
theorem dX15_comparison_49 : decode cX15_comparison 49 = .ok (.aload_n 0, 1) := by decide +kernel
theorem dX15_comparison_50 : decode cX15_comparison 50 = .ok (.iload_n 2, 1) := by decide +kernel
theorem dX15_comparison_51 : decode cX15_comparison 51 = .ok (.iload_n 1, 1) := by decide +kernel
theorem dX15_comparison_52 : decode cX15_comparison 52 = .ok (.aload_n 0, 1) := by decide +kernel
theorem dX15_comparison_53 : decode cX15_comparison 53 = .ok (.invokevirtual 172, 3) := by decide +kernel
theorem dX15_comparison_56 : decode cX15_comparison 56 = .ok (.invokevirtual 175, 3) := by decide +kernel
theorem dX15_comparison_59 : decode cX15_comparison 59 = .ok (.ireturn, 1) := by decide +kernel
theorem dX15_single_0 : decode cX15_single 0 = .ok (.aload_n 0, 1) := by decide +kernel
theorem dX15_single_1 : decode cX15_single 1 = .ok (.bipush 21, 2) := by decide +kernel
theorem dX15_single_3 : decode cX15_single 3 = .ok (.invokevirtual 126, 3) := by decide +kernel
theorem dX15_single_6 : decode cX15_single 6 = .ok (.ifCond .eq 31, 3) := by decide +kernel
theorem dX15_single_9 : decode cX15_single 9 = .ok (.aload_n 0, 1) := by decide +kernel
theorem dX15_single_10 : decode cX15_single 10 = .ok (.invokevirtual 169, 3) := by decide +kernel
theorem dX15_single_13 : decode cX15_single 13 = .ok (.aload_n 0, 1) := by decide +kernel
theorem dX15_single_14 : decode cX15_single 14 = .ok (.invokevirtual 193, 3) := by decide +kernel
theorem dX15_single_17 : decode cX15_single 17 = .ok (.istore_n 1, 1) := by decide +kernel
theorem dX15_single_18 : decode cX15_single 18 = .ok (.aload_n 0, 1) := by decide +kernel
theorem dX15_single_19 : decode cX15_single 19 = .ok (.dup, 1) := by decide +kernel
theorem dX15_single_20 : decode cX15_single 20 = .ok (.getfield 132, 3) := by decide +kernel
theorem dX15_single_23 : decode cX15_single 23 = .ok (.iconst 1, 1) := by decide +kernel
theorem dX15_single_24 : decode cX15_single 24 = .ok (.isub, 1) := by decide +kernel
theorem dX15_single_25 : decode cX15_single 25 = .ok (.putfield 132, 3) := by decide +kernel
theorem dX15_single_28 : decode cX15_single 28 = .ok (.aload_n 0, 1) := by decide +kernel
theorem dX15_single_29 : decode cX15_single 29 = .ok (.bipush 21, 2) := by decide +kernel
theorem dX15_single_31 : decode cX15_single 31 = .ok (.iload_n 1, 1) := by decide +kernel
theorem dX15_single_32 : decode cX15_single 32 = .ok (.iconst 0, 1) := by decide +kernel
theorem dX15_single_33 : decode cX15_single 33 = .ok (.invokevirtual 175, 3) := by decide +kernel
theorem dX15_single_36 : decode cX15_single 36 = .ok (.ireturn, 1) := by decide +kernel
theorem dX15_single_37 : decode cX15_single 37 = .ok (.aload_n 0, 1) := by decide +kernel
theorem dX15_single_38 : decode cX15_single 38 = .ok (.bipush 51, 2) := by decide +kernel
theorem dX15_single_40 : decode cX15_single 40 = .ok (.invokevirtual 126, 3) := by decide +kernel
theorem dX15_single_43 : decode cX15_single 43 = .ok (.ifCond .eq 30, 3) := by decide +kernel
theorem dX15_single_46 : decode cX15_single 46 = .ok (.aload_n 0, 1) := by decide +kernel
theorem dX15_single_47 : decode cX15_single 47 = .ok (.invokevirtual 169, 3) := by decide +kernel
theorem dX15_single_50 : decode cX15_single 50 = .ok (.aload_n 0, 1) := by decide +kernel
theorem dX15_single_51 : decode cX15_single 51 = .ok (.invokevirtual 196, 3) := by decide +kernel
theorem dX15_single_54 : decode cX15_single 54 = .ok (.istore_n 1, 1) := by decide +kernel
theorem dX15_single_55 : decode cX15_single 55 = .ok (.aload_n 0, 1) := by decide +kernel
theorem dX15_single_56 : decode cX15_single 56 = .ok (.bipush 52, 2) := by decide +kernel
theorem dX15_single_58 : decode cX15_single 58 = .ok (.invokevirtual 161, 3) := by decide +kernel
theorem dX15_single_61 : decode cX15_single 61 = .ok (.aload_n 0, 1) := by decide +kernel
theorem dX15_single_62 : decode cX15_single 62 = .ok (.dup, 1) := by decide +kernel
theorem dX15_single_63 : decode cX15_single 63 = .ok (.getfield 132, 3) := by decide +kernel
theorem dX15_single_66 : decode cX15_single 66 = .ok (.iconst 1, 1) := by decide +kernel
theorem dX15_single_67 : decode cX15_single 67 = .ok (.isub, 1) := by decide +kernel
theorem dX15_single_68 : decode cX15_single 68 = .ok (.putfield 132, 3) := by decide +kernel
theorem dX15_single_71 : decode cX15_single 71 = .ok (.iload_n 1, 1) := by decide +kernel
theorem dX15_single_72 : decode cX15_single 72 = .ok (.ireturn, 1) := by decide +kernel
theorem dX15_single_73 : decode cX15_single 73 = .ok (.aload_n 0, 1) := by decide +kernel
theorem dX15_single_74 : decode cX15_single 74 = .ok (.bipush 19, 2) := by decide +kernel
theorem dX15_single_76 : decode cX15_single 76 = .ok (.invokevirtual 199, 3) := by decide +kernel
theorem dX15_single_79 : decode cX15_single 79 = .ok (.ifCond .eq 15, 3) := by decide +kernel
theorem dX15_single_82 : decode cX15_single 82 = .ok (.aload_n 0, 1) := by decide +kernel
theorem dX15_single_83 : decode cX15_single 83 = .ok (.bipush 19, 2) := by decide +kernel
theorem dX15_single_85 : decode cX15_single 85 = .ok (.aload_n 0, 1) := by decide +kernel
theorem dX15_single_86 : decode cX15_single 86 = .ok (.invokevirtual 179, 3) := by decide +kernel
theorem dX15_single_89 : decode cX15_single 89 = .ok (.iconst 0, 1) := by decide +kernel
theorem dX15_single_90 : decode cX15_single 90 = .ok (.invokevirtual 175, 3) := by decide +kernel
theorem dX15_single_93 : decode cX15_single 93 = .ok (.ireturn, 1) := by decide +kernel
theorem dX15_single_94 : decode cX15_single 94 = .ok (.aload_n 0, 1) := by decide +kernel
theorem dX15_single_95 : decode cX15_single 95 = .ok (.bipush 20, 2) := by decide +kernel
theorem dX15_single_97 : decode cX15_single 97 = .ok (.invokevirtual 199, 3) := by decide +kernel
theorem dX15_single_100 : decode cX15_single 100 = .ok (.ifCond .eq 17, 3) := by decide +kernel
theorem dX15_single_103 : decode cX15_single 103 = .ok (.aload_n 0, 1) := by decide +kernel
theorem dX15_single_104 : decode cX15_single 104 = .ok (.bipush 20, 2) := by decide +kernel
theorem dX15_single_106 : decode cX15_single 106 = .ok (.aload_n 0, 1) := by decide +kernel
theorem dX15_single_107 : decode cX15_single 107 = .ok (.invokevirtual 179, 3) := by decide +kernel
theorem dX15_single_110 : decode cX15_single 110 = .ok (.iconst 0, 1) := by decide +kernel
theorem dX15_single_111 : decode cX15_single 111 = .ok (.invokevirtual 175, 3) := by decide +kernel
theorem dX15_single_114 : decode cX15_single 114 = .ok (.goto 7, 3) := by decide +kernel
theorem dX15_single_117 : decode cX15_single 117 = .ok (.aload_n 0, 1) := by decide +kernel
theorem dX15_single_118 : decode cX15_single 118 = .ok (.invokevirtual 202, 3) := by decide +kernel
theorem dX15_single_121 : decode cX15_single 121 = .ok (.ireturn, 1) := by decide +kernel
theorem dX15_both_0 : decode cX15_both 0 = .ok (.aload_n 0, 1) := by decide +kernel
theorem dX15_both_1 : decode cX15_both 1 = .ok (.invokevirtual 193, 3) := by decide +kernel
theorem dX15_both_4 : decode cX15_both 4 = .ok (.istore_n 1, 1) := by decide +kernel
theorem dX15_both_5 : decode cX15_both 5 = .ok (.aload_n 0, 1) := by decide +kernel
theorem dX15_both_6 : decode cX15_both 6 = .ok (.bipush 22, 2) := by decide +kernel
theorem dX15_both_8 : decode cX15_both 8 = .ok (.invokevirtual 199, 3) := by decide +kernel
theorem dX15_both_11 : decode cX15_both 11 = .ok (.ifCond .eq 18, 3) := by decide +kernel
theorem dX15_both_14 : decode cX15_both 14 = .ok (.aload_n 0, 1) := by decide +kernel
theorem dX15_both_15 : decode cX15_both 15 = .ok (.bipush 22, 2) := by decide +kernel
theorem dX15_both_17 : decode cX15_both 17 = .ok (.iload_n 1, 1) := by decide +kernel
theorem dX15_both_18 : decode cX15_both 18 = .ok (.aload_n 0, 1) := by decide +kernel
theorem dX15_both_19 : decode cX15_both 19 = .ok (.invokevirtual 193, 3) := by decide +kernel
theorem dX15_both_22 : decode cX15_both 22 = .ok (.invokevirtual 175, 3) := by decide +kernel
theorem dX15_both_25 : decode cX15_both 25 = .ok (.istore_n 1, 1) := by decide +kernel
theorem dX15_both_26 : decode cX15_both 26 = .ok (.goto (-21), 3) := by decide +kernel
theorem dX15_both_29 : decode cX15_both 29 = .ok (.iload_n 1, 1) := by decide +kernel
theorem dX15_both_30 : decode cX15_both 30 = .ok (.ireturn, 1) := by decide +kernel
theorem dX15_test_0 : decode cX15_test 0 = .ok (.aload_n 0, 1) := by decide +kernel
theorem dX15_test_1 : decode cX15_test 1 = .ok (.invokevirtual 205, 3) := by decide +kernel
theorem dX15_test_4 : decode cX15_test 4 = .ok (.istore_n 1, 1) := by decide +kernel
theorem dX15_test_5 : decode cX15_test 5 = .ok (.aload_n 0, 1) := by decide +kernel
theorem dX15_test_6 : decode cX15_test 6 = .ok (.bipush 23, 2) := by decide +kernel
theorem dX15_test_8 : decode cX15_test 8 = .ok (.invokevirtual 199, 3) := by decide +kernel
theorem dX15_test_11 : decode cX15_test 11 = .ok (.ifCond .eq 18, 3) := by decide +kernel
theorem dX15_test_14 : decode cX15_test 14 = .ok (.aload_n 0, 1) := by decide +kernel
theorem dX15_test_15 : decode cX15_test 15 = .ok (.bipush 23, 2) := by decide +kernel
theorem dX15_test_17 : decode cX15_test 17 = .ok (.iload_n 1, 1) := by decide +kernel
theorem dX15_test_18 : decode cX15_test 18 = .ok (.aload_n 0, 1) := by decide +kernel
theorem dX15_test_19 : decode cX15_test 19 = .ok (.invokevirtual 205, 3) := by decide +kernel
theorem dX15_test_22 : decode cX15_test 22 = .ok (.invokevirtual 175, 3) := by decide +kernel
theorem dX15_test_25 : decode cX15_test 25 = .ok (.istore_n 1, 1) := by decide +kernel
theorem dX15_test_26 : decode cX15_test 26 = .ok (.goto (-21), 3) := by decide +kernel
theorem dX15_test_29 : decode cX15_test 29 = .ok (.iload_n 1, 1) := by decide +kernel
theorem dX15_test_30 : decode cX15_test 30 = .ok (.ireturn, 1) := by decide +kernel
theorem dX15_numberIn_0 : decode cX15_numberIn 0 = .ok (.aload_n 0, 1) := by decide +kernel
theorem dX15_numberIn_1 : decode cX15_numberIn 1 = .ok (.getfield 20, 3) := by decide +kernel
theorem dX15_numberIn_4 : decode cX15_numberIn 4 = .ok (.aload_n 0, 1) := by decide +kernel
theorem dX15_numberIn_5 : decode cX15_numberIn 5 = .ok (.getfield 117, 3) := by decide +kernel
theorem dX15_numberIn_8 : decode cX15_numberIn 8 = .ok (.iaload, 1) := by decide +kernel
theorem dX15_numberIn_9 : decode cX15_numberIn 9 = .ok (.istore_n 3, 1) := by decide +kernel
theorem dX15_numberIn_10 : decode cX15_numberIn 10 = .ok (.aload_n 0, 1) := by decide +kernel
theorem dX15_numberIn_11 : decode cX15_numberIn 11 = .ok (.bipush 31, 2) := by decide +kernel
theorem dX15_numberIn_13 : decode cX15_numberIn 13 = .ok (.invokevirtual 126, 3) := by decide +kernel
theorem dX15_numberIn_16 : decode cX15_numberIn 16 = .ok (.ifCond .eq 17, 3) := by decide +kernel
theorem dX15_numberIn_19 : decode cX15_numberIn 19 = .ok (.iload_n 3, 1) := by decide +kernel
theorem dX15_numberIn_20 : decode cX15_numberIn 20 = .ok (.iload_n 1, 1) := by decide +kernel
theorem dX15_numberIn_21 : decode cX15_numberIn 21 = .ok (.iload_n 2, 1) := by decide +kernel
theorem dX15_numberIn_22 : decode cX15_numberIn 22 = .ok (.invokestatic 65, 3) := by decide +kernel
theorem dX15_numberIn_25 : decode cX15_numberIn 25 = .ok (.ifCond .ne 8, 3) := by decide +kernel
theorem dX15_numberIn_28 : decode cX15_numberIn 28 = .ok (.aload_n 0, 1) := by decide +kernel
theorem dX15_numberIn_29 : decode cX15_numberIn 29 = .ok (.iconst 5, 1) := by decide +kernel
theorem dX15_numberIn_30 : decode cX15_numberIn 30 = .ok (.invokevirtual 157, 3) := by decide +kernel
theorem dX15_numberIn_33 : decode cX15_numberIn 33 = .ok (.aload_n 0, 1) := by decide +kernel
theorem dX15_numberIn_34 : decode cX15_numberIn 34 = .ok (.bipush 31, 2) := by decide +kernel
theorem dX15_numberIn_36 : decode cX15_numberIn 36 = .ok (.invokevirtual 161, 3) := by decide +kernel
theorem dX15_numberIn_39 : decode cX15_numberIn 39 = .ok (.iload_n 3, 1) := by decide +kernel
theorem dX15_numberIn_40 : decode cX15_numberIn 40 = .ok (.ireturn, 1) := by decide +kernel
theorem dX15_part_0 : decode cX15_part 0 = .ok (.iconst 0, 1) := by decide +kernel
theorem dX15_part_1 : decode cX15_part 1 = .ok (.istore_n 2, 1) := by decide +kernel
theorem dX15_part_2 : decode cX15_part 2 = .ok (.iconst 0, 1) := by decide +kernel
theorem dX15_part_3 : decode cX15_part 3 = .ok (.istore_n 3, 1) := by decide +kernel
theorem dX15_part_4 : decode cX15_part 4 = .ok (.aload_n 0, 1) := by decide +kernel
theorem dX15_part_5 : decode cX15_part 5 = .ok (.iconst 2, 1) := by decide +kernel
theorem dX15_part_6 : decode cX15_part 6 = .ok (.invokevirtual 199, 3) := by decide +kernel
theorem dX15_part_9 : decode cX15_part 9 = .ok (.ifCond .eq 16, 3) := by decide +kernel
theorem dX15_part_12 : decode cX15_part 12 = .ok (.aload_n 0, 1) := by decide +kernel
theorem dX15_part_13 : decode cX15_part 13 = .ok (.iconst 1, 1) := by decide +kernel
theorem dX15_part_14 : decode cX15_part 14 = .ok (.bipush 40, 2) := by decide +kernel
theorem dX15_part_16 : decode cX15_part 16 = .ok (.invokevirtual 208, 3) := by decide +kernel
theorem dX15_part_19 : decode cX15_part 19 = .ok (.istore_n 2, 1) := by decide +kernel
theorem dX15_part_20 : decode cX15_part 20 = .ok (.iload_n 2, 1) := by decide +kernel
theorem dX15_part_21 : decode cX15_part 21 = .ok (.istore_n 3, 1) := by decide +kernel
theorem dX15_part_22 : decode cX15_part 22 = .ok (.goto 41, 3) := by decide +kernel
theorem dX15_part_25 : decode cX15_part 25 = .ok (.aload_n 0, 1) := by decide +kernel
theorem dX15_part_26 : decode cX15_part 26 = .ok (.iconst 4, 1) := by decide +kernel
theorem dX15_part_27 : decode cX15_part 27 = .ok (.invokevirtual 199, 3) := by decide +kernel
theorem dX15_part_30 : decode cX15_part 30 = .ok (.ifCond .eq 27, 3) := by decide +kernel
theorem dX15_part_33 : decode cX15_part 33 = .ok (.aload_n 0, 1) := by decide +kernel
theorem dX15_part_34 : decode cX15_part 34 = .ok (.iconst 1, 1) := by decide +kernel
theorem dX15_part_35 : decode cX15_part 35 = .ok (.bipush 40, 2) := by decide +kernel
theorem dX15_part_37 : decode cX15_part 37 = .ok (.invokevirtual 208, 3) := by decide +kernel
theorem dX15_part_40 : decode cX15_part 40 = .ok (.istore_n 2, 1) := by decide +kernel
theorem dX15_part_41 : decode cX15_part 41 = .ok (.aload_n 0, 1) := by decide +kernel
theorem dX15_part_42 : decode cX15_part 42 = .ok (.iconst 5, 1) := by decide +kernel
theorem dX15_part_43 : decode cX15_part 43 = .ok (.invokevirtual 161, 3) := by decide +kernel
theorem dX15_part_46 : decode cX15_part 46 = .ok (.aload_n 0, 1) := by decide +kernel
theorem dX15_part_47 : decode cX15_part 47 = .ok (.iconst 1, 1) := by decide +kernel
theorem dX15_part_48 : decode cX15_part 48 = .ok (.bipush 40, 2) := by decide +kernel
theorem dX15_part_50 : decode cX15_part 50 = .ok (.invokevirtual 208, 3) := by decide +kernel
theorem dX15_part_53 : decode cX15_part 53 = .ok (.istore_n 3, 1) := by decide +kernel
theorem dX15_part_54 : decode cX15_part 54 = .ok (.goto 9, 3) := by decide +kernel
theorem dX15_part_57 : decode cX15_part 57 = .ok (.aload_n 0, 1) := by decide +kernel
theorem dX15_part_58 : decode cX15_part 58 = .ok (.bipush 6, 2) := by decide +kernel
theorem dX15_part_60 : decode cX15_part 60 = .ok (.invokevirtual 161, 3) := by decide +kernel
theorem dX15_part_63 : decode cX15_part 63 = .ok (.aload_n 0, 1) := by decide +kernel
theorem dX15_part_64 : decode cX15_part 64 = .ok (.iconst 3, 1) := by decide +kernel
theorem dX15_part_65 : decode cX15_part 65 = .ok (.invokevirtual 161, 3) := by decide +kernel
theorem dX15_part_68 : decode cX15_part 68 = .ok (.aload_n 0, 1) := by decide +kernel
theorem dX15_part_69 : decode cX15_part 69 = .ok (.iconst 1, 1) := by decide +kernel
theorem dX15_part_70 : decode cX15_part 70 = .ok (.bipush 9, 2) := by decide +kernel
theorem dX15_part_72 : decode cX15_part 72 = .ok (.bipush 24, 2) := by decide +kernel
theorem dX15_part_74 : decode cX15_part 74 = .ok (.aload_n 0, 1) := by decide +kernel
theorem dX15_part_75 : decode cX15_part 75 = .ok (.getfield 39, 3) := by decide +kernel
theorem dX15_part_78 : decode cX15_part 78 = .ok (.getfield 211, 3) := by decide +kernel
theorem dX15_part_81 : decode cX15_part 81 = .ok (.iload_n 1, 1) := by decide +kernel
theorem dX15_part_82 : decode cX15_part 82 = .ok (.iaload, 1) := by decide +kernel
theorem dX15_part_83 : decode cX15_part 83 = .ok (.isub, 1) := by decide +kernel
theorem dX15_part_84 : decode cX15_part 84 = .ok (.invokestatic 214, 3) := by decide +kernel
theorem dX15_part_87 : decode cX15_part 87 = .ok (.invokevirtual 208, 3) := by decide +kernel
theorem dX15_part_90 : decode cX15_part 90 = .ok (.istore 4, 2) := by decide +kernel
theorem dX15_part_92 : decode cX15_part 92 = .ok (.iconst 0, 1) := by decide +kernel
theorem dX15_part_93 : decode cX15_part 93 = .ok (.istore 5, 2) := by decide +kernel
theorem dX15_part_95 : decode cX15_part 95 = .ok (.iload 5, 2) := by decide +kernel
theorem dX15_part_97 : decode cX15_part 97 = .ok (.iload 4, 2) := by decide +kernel
theorem dX15_part_99 : decode cX15_part 99 = .ok (.if_icmp .ge 69, 3) := by decide +kernel
theorem dX15_part_102 : decode cX15_part 102 = .ok (.aload_n 0, 1) := by decide +kernel
theorem dX15_part_103 : decode cX15_part 103 = .ok (.getfield 113, 3) := by decide +kernel
theorem dX15_part_106 : decode cX15_part 106 = .ok (.ifCond .ne 62, 3) := by decide +kernel
theorem dX15_part_109 : decode cX15_part 109 = .ok (.aload_n 0, 1) := by decide +kernel
theorem dX15_part_110 : decode cX15_part 110 = .ok (.getfield 120, 3) := by decide +kernel
theorem dX15_part_113 : decode cX15_part 113 = .ok (.ifCond .ne 55, 3) := by decide +kernel
theorem dX15_part_116 : decode cX15_part 116 = .ok (.aload_n 0, 1) := by decide +kernel
theorem dX15_part_117 : decode cX15_part 117 = .ok (.getfield 39, 3) := by decide +kernel
theorem dX15_part_120 : decode cX15_part 120 = .ok (.getfield 217, 3) := by decide +kernel
theorem dX15_part_123 : decode cX15_part 123 = .ok (.bipush 24, 2) := by decide +kernel
theorem dX15_part_125 : decode cX15_part 125 = .ok (.iload_n 1, 1) := by decide +kernel
theorem dX15_part_126 : decode cX15_part 126 = .ok (.imul, 1) := by decide +kernel
theorem dX15_part_127 : decode cX15_part 127 = .ok (.aload_n 0, 1) := by decide +kernel
theorem dX15_part_128 : decode cX15_part 128 = .ok (.getfield 39, 3) := by decide +kernel
theorem dX15_part_131 : decode cX15_part 131 = .ok (.getfield 211, 3) := by decide +kernel
theorem dX15_part_134 : decode cX15_part 134 = .ok (.iload_n 1, 1) := by decide +kernel
theorem dX15_part_135 : decode cX15_part 135 = .ok (.iaload, 1) := by decide +kernel
theorem dX15_part_136 : decode cX15_part 136 = .ok (.iadd, 1) := by decide +kernel
theorem dX15_part_137 : decode cX15_part 137 = .ok (.iload_n 2, 1) := by decide +kernel
theorem dX15_part_138 : decode cX15_part 138 = .ok (.iload_n 3, 1) := by decide +kernel
theorem dX15_part_139 : decode cX15_part 139 = .ok (.iload_n 2, 1) := by decide +kernel
theorem dX15_part_140 : decode cX15_part 140 = .ok (.isub, 1) := by decide +kernel
theorem dX15_part_141 : decode cX15_part 141 = .ok (.iload 5, 2) := by decide +kernel
theorem dX15_part_143 : decode cX15_part 143 = .ok (.imul, 1) := by decide +kernel
theorem dX15_part_144 : decode cX15_part 144 = .ok (.iload 4, 2) := by decide +kernel
theorem dX15_part_146 : decode cX15_part 146 = .ok (.idiv, 1) := by decide +kernel
theorem dX15_part_147 : decode cX15_part 147 = .ok (.iadd, 1) := by decide +kernel
theorem dX15_part_148 : decode cX15_part 148 = .ok (.iastore, 1) := by decide +kernel
theorem dX15_part_149 : decode cX15_part 149 = .ok (.aload_n 0, 1) := by decide +kernel
theorem dX15_part_150 : decode cX15_part 150 = .ok (.getfield 39, 3) := by decide +kernel
theorem dX15_part_153 : decode cX15_part 153 = .ok (.getfield 211, 3) := by decide +kernel
theorem dX15_part_156 : decode cX15_part 156 = .ok (.iload_n 1, 1) := by decide +kernel
theorem dX15_part_157 : decode cX15_part 157 = .ok (.dup2, 1) := by decide +kernel
theorem dX15_part_158 : decode cX15_part 158 = .ok (.iaload, 1) := by decide +kernel
theorem dX15_part_159 : decode cX15_part 159 = .ok (.iconst 1, 1) := by decide +kernel
theorem dX15_part_160 : decode cX15_part 160 = .ok (.iadd, 1) := by decide +kernel
theorem dX15_part_161 : decode cX15_part 161 = .ok (.iastore, 1) := by decide +kernel
theorem dX15_part_162 : decode cX15_part 162 = .ok (.iinc 5 1, 3) := by decide +kernel
theorem dX15_part_165 : decode cX15_part 165 = .ok (.goto (-70), 3) := by decide +kernel
theorem dX15_part_168 : decode cX15_part 168 = .ok (.return_, 1) := by decide +kernel
theorem dX15_word_0 : decode cX15_word 0 = .ok (.bipush 8, 2) := by decide +kernel
theorem dX15_word_2 : decode cX15_word 2 = .ok (.aload_n 0, 1) := by decide +kernel
theorem dX15_word_3 : decode cX15_word 3 = .ok (.getfield 39, 3) := by decide +kernel
theorem dX15_word_6 : decode cX15_word 6 = .ok (.getfield 147, 3) := by decide +kernel
theorem dX15_word_9 : decode cX15_word 9 = .ok (.invokestatic 214, 3) := by decide +kernel
theorem dX15_word_12 : decode cX15_word 12 = .ok (.istore_n 1, 1) := by decide +kernel
theorem dX15_word_13 : decode cX15_word 13 = .ok (.aload_n 0, 1) := by decide +kernel
theorem dX15_word_14 : decode cX15_word 14 = .ok (.bipush 30, 2) := by decide +kernel
theorem dX15_word_16 : decode cX15_word 16 = .ok (.invokevirtual 126, 3) := by decide +kernel
theorem dX15_word_19 : decode cX15_word 19 = .ok (.ifCond .eq 16, 3) := by decide +kernel
theorem dX15_word_22 : decode cX15_word 22 = .ok (.aload_n 0, 1) := by decide +kernel
theorem dX15_word_23 : decode cX15_word 23 = .ok (.invokevirtual 154, 3) := by decide +kernel
theorem dX15_word_26 : decode cX15_word 26 = .ok (.iconst (-1), 1) := by decide +kernel
theorem dX15_word_27 : decode cX15_word 27 = .ok (.if_icmp .eq 8, 3) := by decide +kernel
theorem dX15_word_30 : decode cX15_word 30 = .ok (.aload_n 0, 1) := by decide +kernel
theorem dX15_word_31 : decode cX15_word 31 = .ok (.iconst 2, 1) := by decide +kernel
theorem dX15_word_32 : decode cX15_word 32 = .ok (.invokevirtual 157, 3) := by decide +kernel
theorem dX15_word_35 : decode cX15_word 35 = .ok (.aload_n 0, 1) := by decide +kernel
theorem dX15_word_36 : decode cX15_word 36 = .ok (.bipush 30, 2) := by decide +kernel
theorem dX15_word_38 : decode cX15_word 38 = .ok (.invokevirtual 126, 3) := by decide +kernel
theorem dX15_word_41 : decode cX15_word 41 = .ok (.ifCond .eq 14, 3) := by decide +kernel
theorem dX15_word_44 : decode cX15_word 44 = .ok (.iload_n 1, 1) := by decide +kernel
theorem dX15_word_45 : decode cX15_word 45 = .ok (.bipush 8, 2) := by decide +kernel
theorem dX15_word_47 : decode cX15_word 47 = .ok (.if_icmp .ne 8, 3) := by decide +kernel
theorem dX15_word_50 : decode cX15_word 50 = .ok (.aload_n 0, 1) := by decide +kernel
theorem dX15_word_51 : decode cX15_word 51 = .ok (.iconst 4, 1) := by decide +kernel
theorem dX15_word_52 : decode cX15_word 52 = .ok (.invokevirtual 157, 3) := by decide +kernel
theorem dX15_word_55 : decode cX15_word 55 = .ok (.aload_n 0, 1) := by decide +kernel
theorem dX15_word_56 : decode cX15_word 56 = .ok (.bipush 30, 2) := by decide +kernel
theorem dX15_word_58 : decode cX15_word 58 = .ok (.invokevirtual 126, 3) := by decide +kernel
theorem dX15_word_61 : decode cX15_word 61 = .ok (.ifCond .eq 19, 3) := by decide +kernel
theorem dX15_word_64 : decode cX15_word 64 = .ok (.iload_n 1, 1) := by decide +kernel
theorem dX15_word_65 : decode cX15_word 65 = .ok (.bipush 8, 2) := by decide +kernel
theorem dX15_word_67 : decode cX15_word 67 = .ok (.if_icmp .ge 13, 3) := by decide +kernel
theorem dX15_word_70 : decode cX15_word 70 = .ok (.aload_n 0, 1) := by decide +kernel
theorem dX15_word_71 : decode cX15_word 71 = .ok (.getfield 29, 3) := by decide +kernel
theorem dX15_word_74 : decode cX15_word 74 = .ok (.iload_n 1, 1) := by decide +kernel
theorem dX15_word_75 : decode cX15_word 75 = .ok (.aload_n 0, 1) := by decide +kernel
theorem dX15_word_76 : decode cX15_word 76 = .ok (.getfield 117, 3) := by decide +kernel
theorem dX15_word_79 : decode cX15_word 79 = .ok (.iastore, 1) := by decide +kernel
theorem dX15_word_80 : decode cX15_word 80 = .ok (.aload_n 0, 1) := by decide +kernel
theorem dX15_word_81 : decode cX15_word 81 = .ok (.bipush 30, 2) := by decide +kernel
theorem dX15_word_83 : decode cX15_word 83 = .ok (.invokevirtual 161, 3) := by decide +kernel
theorem dX15_word_86 : decode cX15_word 86 = .ok (.aload_n 0, 1) := by decide +kernel
theorem dX15_word_87 : decode cX15_word 87 = .ok (.iconst 1, 1) := by decide +kernel
theorem dX15_word_88 : decode cX15_word 88 = .ok (.invokevirtual 161, 3) := by decide +kernel
theorem dX15_word_91 : decode cX15_word 91 = .ok (.aload_n 0, 1) := by decide +kernel
theorem dX15_word_92 : decode cX15_word 92 = .ok (.getfield 39, 3) := by decide +kernel
theorem dX15_word_95 : decode cX15_word 95 = .ok (.getfield 211, 3) := by decide +kernel
theorem dX15_word_98 : decode cX15_word 98 = .ok (.iload_n 1, 1) := by decide +kernel
theorem dX15_word_99 : decode cX15_word 99 = .ok (.iconst 0, 1) := by decide +kernel
theorem dX15_word_100 : decode cX15_word 100 = .ok (.iastore, 1) := by decide +kernel
theorem dX15_word_101 : decode cX15_word 101 = .ok (.aload_n 0, 1) := by decide +kernel
theorem dX15_word_102 : decode cX15_word 102 = .ok (.iload_n 1, 1) := by decide +kernel
theorem dX15_word_103 : decode cX15_word 103 = .ok (.invokevirtual 220, 3) := by decide +kernel
theorem dX15_word_106 : decode cX15_word 106 = .ok (.aload_n 0, 1) := by decide +kernel
theorem dX15_word_107 : decode cX15_word 107 = .ok (.bipush 54, 2) := by decide +kernel
theorem dX15_word_109 : decode cX15_word 109 = .ok (.invokevirtual 199, 3) := by decide +kernel
theorem dX15_word_112 : decode cX15_word 112 = .ok (.ifCond .eq 11, 3) := by decide +kernel
theorem dX15_word_115 : decode cX15_word 115 = .ok (.aload_n 0, 1) := by decide +kernel
theorem dX15_word_116 : decode cX15_word 116 = .ok (.iload_n 1, 1) := by decide +kernel
theorem dX15_word_117 : decode cX15_word 117 = .ok (.invokevirtual 220, 3) := by decide +kernel
theorem dX15_word_120 : decode cX15_word 120 = .ok (.goto (-14), 3) := by decide +kernel
theorem dX15_word_123 : decode cX15_word 123 = .ok (.aload_n 0, 1) := by decide +kernel
theorem dX15_word_124 : decode cX15_word 124 = .ok (.getfield 39, 3) := by decide +kernel
theorem dX15_word_127 : decode cX15_word 127 = .ok (.bipush 8, 2) := by decide +kernel
theorem dX15_word_129 : decode cX15_word 129 = .ok (.iload_n 1, 1) := by decide +kernel
theorem dX15_word_130 : decode cX15_word 130 = .ok (.iconst 1, 1) := by decide +kernel
theorem dX15_word_131 : decode cX15_word 131 = .ok (.iadd, 1) := by decide +kernel
theorem dX15_word_132 : decode cX15_word 132 = .ok (.invokestatic 214, 3) := by decide +kernel
theorem dX15_word_135 : decode cX15_word 135 = .ok (.putfield 147, 3) := by decide +kernel
theorem dX15_word_138 : decode cX15_word 138 = .ok (.return_, 1) := by decide +kernel
theorem dX15_rule_0 : decode cX15_rule 0 = .ok (.bipush 16, 2) := by decide +kernel
theorem dX15_rule_2 : decode cX15_rule 2 = .ok (.aload_n 0, 1) := by decide +kernel
theorem dX15_rule_3 : decode cX15_rule 3 = .ok (.getfield 39, 3) := by decide +kernel
theorem dX15_rule_6 : decode cX15_rule 6 = .ok (.getfield 223, 3) := by decide +kernel
theorem dX15_rule_9 : decode cX15_rule 9 = .ok (.invokestatic 214, 3) := by decide +kernel
theorem dX15_rule_12 : decode cX15_rule 12 = .ok (.istore_n 2, 1) := by decide +kernel
theorem dX15_rule_13 : decode cX15_rule 13 = .ok (.iload_n 2, 1) := by decide +kernel
theorem dX15_rule_14 : decode cX15_rule 14 = .ok (.bipush 16, 2) := by decide +kernel
theorem dX15_rule_16 : decode cX15_rule 16 = .ok (.if_icmp .ne 8, 3) := by decide +kernel
theorem dX15_rule_19 : decode cX15_rule 19 = .ok (.aload_n 0, 1) := by decide +kernel
theorem dX15_rule_20 : decode cX15_rule 20 = .ok (.iconst 4, 1) := by decide +kernel
theorem dX15_rule_21 : decode cX15_rule 21 = .ok (.invokevirtual 157, 3) := by decide +kernel
theorem dX15_rule_24 : decode cX15_rule 24 = .ok (.aload_n 0, 1) := by decide +kernel
theorem dX15_rule_25 : decode cX15_rule 25 = .ok (.dup, 1) := by decide +kernel
theorem dX15_rule_26 : decode cX15_rule 26 = .ok (.getfield 117, 3) := by decide +kernel
theorem dX15_rule_29 : decode cX15_rule 29 = .ok (.iconst 1, 1) := by decide +kernel
theorem dX15_rule_30 : decode cX15_rule 30 = .ok (.iadd, 1) := by decide +kernel
theorem dX15_rule_31 : decode cX15_rule 31 = .ok (.putfield 117, 3) := by decide +kernel
theorem dX15_rule_34 : decode cX15_rule 34 = .ok (.aload_n 0, 1) := by decide +kernel
theorem dX15_rule_35 : decode cX15_rule 35 = .ok (.getfield 39, 3) := by decide +kernel
theorem dX15_rule_38 : decode cX15_rule 38 = .ok (.getfield 226, 3) := by decide +kernel
theorem dX15_rule_41 : decode cX15_rule 41 = .ok (.iload_n 2, 1) := by decide +kernel
theorem dX15_rule_42 : decode cX15_rule 42 = .ok (.aload_n 0, 1) := by decide +kernel
theorem dX15_rule_43 : decode cX15_rule 43 = .ok (.getfield 39, 3) := by decide +kernel
theorem dX15_rule_46 : decode cX15_rule 46 = .ok (.getfield 135, 3) := by decide +kernel
theorem dX15_rule_49 : decode cX15_rule 49 = .ok (.iastore, 1) := by decide +kernel
theorem dX15_rule_50 : decode cX15_rule 50 = .ok (.aload_n 0, 1) := by decide +kernel
theorem dX15_rule_51 : decode cX15_rule 51 = .ok (.getfield 39, 3) := by decide +kernel
theorem dX15_rule_54 : decode cX15_rule 54 = .ok (.getfield 229, 3) := by decide +kernel
theorem dX15_rule_57 : decode cX15_rule 57 = .ok (.iload_n 2, 1) := by decide +kernel
theorem dX15_rule_58 : decode cX15_rule 58 = .ok (.iload_n 1, 1) := by decide +kernel
theorem dX15_rule_59 : decode cX15_rule 59 = .ok (.iastore, 1) := by decide +kernel
theorem dX15_rule_60 : decode cX15_rule 60 = .ok (.aload_n 0, 1) := by decide +kernel
theorem dX15_rule_61 : decode cX15_rule 61 = .ok (.getfield 39, 3) := by decide +kernel
theorem dX15_rule_64 : decode cX15_rule 64 = .ok (.getfield 232, 3) := by decide +kernel
theorem dX15_rule_67 : decode cX15_rule 67 = .ok (.iload_n 2, 1) := by decide +kernel
theorem dX15_rule_68 : decode cX15_rule 68 = .ok (.aload_n 0, 1) := by decide +kernel
theorem dX15_rule_69 : decode cX15_rule 69 = .ok (.invokevirtual 179, 3) := by decide +kernel
theorem dX15_rule_72 : decode cX15_rule 72 = .ok (.iastore, 1) := by decide +kernel
theorem dX15_rule_73 : decode cX15_rule 73 = .ok (.iload_n 1, 1) := by decide +kernel
theorem dX15_rule_74 : decode cX15_rule 74 = .ok (.iconst 2, 1) := by decide +kernel
theorem dX15_rule_75 : decode cX15_rule 75 = .ok (.if_icmp .ne 22, 3) := by decide +kernel
theorem dX15_rule_78 : decode cX15_rule 78 = .ok (.aload_n 0, 1) := by decide +kernel
theorem dX15_rule_79 : decode cX15_rule 79 = .ok (.bipush 12, 2) := by decide +kernel
theorem dX15_rule_81 : decode cX15_rule 81 = .ok (.invokevirtual 161, 3) := by decide +kernel
theorem dX15_rule_84 : decode cX15_rule 84 = .ok (.aload_n 0, 1) := by decide +kernel
theorem dX15_rule_85 : decode cX15_rule 85 = .ok (.getfield 39, 3) := by decide +kernel
theorem dX15_rule_88 : decode cX15_rule 88 = .ok (.getfield 235, 3) := by decide +kernel
theorem dX15_rule_91 : decode cX15_rule 91 = .ok (.iload_n 2, 1) := by decide +kernel
theorem dX15_rule_92 : decode cX15_rule 92 = .ok (.aload_n 0, 1) := by decide +kernel
theorem dX15_rule_93 : decode cX15_rule 93 = .ok (.invokevirtual 172, 3) := by decide +kernel
theorem dX15_rule_96 : decode cX15_rule 96 = .ok (.iastore, 1) := by decide +kernel
theorem dX15_rule_97 : decode cX15_rule 97 = .ok (.aload_n 0, 1) := by decide +kernel
theorem dX15_rule_98 : decode cX15_rule 98 = .ok (.getfield 39, 3) := by decide +kernel
theorem dX15_rule_101 : decode cX15_rule 101 = .ok (.getfield 237, 3) := by decide +kernel
theorem dX15_rule_104 : decode cX15_rule 104 = .ok (.iload_n 2, 1) := by decide +kernel
theorem dX15_rule_105 : decode cX15_rule 105 = .ok (.aload_n 0, 1) := by decide +kernel
theorem dX15_rule_106 : decode cX15_rule 106 = .ok (.bipush 13, 2) := by decide +kernel
theorem dX15_rule_108 : decode cX15_rule 108 = .ok (.invokevirtual 199, 3) := by decide +kernel
theorem dX15_rule_111 : decode cX15_rule 111 = .ok (.ifCond .eq 10, 3) := by decide +kernel
theorem dX15_rule_114 : decode cX15_rule 114 = .ok (.aload_n 0, 1) := by decide +kernel
theorem dX15_rule_115 : decode cX15_rule 115 = .ok (.invokevirtual 196, 3) := by decide +kernel
theorem dX15_rule_118 : decode cX15_rule 118 = .ok (.goto 4, 3) := by decide +kernel
theorem dX15_rule_121 : decode cX15_rule 121 = .ok (.iconst (-1), 1) := by decide +kernel
theorem dX15_rule_122 : decode cX15_rule 122 = .ok (.iastore, 1) := by decide +kernel
theorem dX15_rule_123 : decode cX15_rule 123 = .ok (.aload_n 0, 1) := by decide +kernel
theorem dX15_rule_124 : decode cX15_rule 124 = .ok (.getfield 39, 3) := by decide +kernel
theorem dX15_rule_127 : decode cX15_rule 127 = .ok (.getfield 239, 3) := by decide +kernel
theorem dX15_rule_130 : decode cX15_rule 130 = .ok (.iload_n 2, 1) := by decide +kernel
theorem dX15_rule_131 : decode cX15_rule 131 = .ok (.aload_n 0, 1) := by decide +kernel
theorem dX15_rule_132 : decode cX15_rule 132 = .ok (.getfield 39, 3) := by decide +kernel
theorem dX15_rule_135 : decode cX15_rule 135 = .ok (.getfield 135, 3) := by decide +kernel
theorem dX15_rule_138 : decode cX15_rule 138 = .ok (.iastore, 1) := by decide +kernel
theorem dX15_rule_139 : decode cX15_rule 139 = .ok (.aload_n 0, 1) := by decide +kernel
theorem dX15_rule_140 : decode cX15_rule 140 = .ok (.getfield 39, 3) := by decide +kernel
theorem dX15_rule_143 : decode cX15_rule 143 = .ok (.bipush 16, 2) := by decide +kernel
theorem dX15_rule_145 : decode cX15_rule 145 = .ok (.iload_n 2, 1) := by decide +kernel
theorem dX15_rule_146 : decode cX15_rule 146 = .ok (.iconst 1, 1) := by decide +kernel
theorem dX15_rule_147 : decode cX15_rule 147 = .ok (.iadd, 1) := by decide +kernel
theorem dX15_rule_148 : decode cX15_rule 148 = .ok (.invokestatic 214, 3) := by decide +kernel
theorem dX15_rule_151 : decode cX15_rule 151 = .ok (.putfield 223, 3) := by decide +kernel
theorem dX15_rule_154 : decode cX15_rule 154 = .ok (.return_, 1) := by decide +kernel
theorem dX15_line_0 : decode cX15_line 0 = .ok (.aload_n 0, 1) := by decide +kernel
theorem dX15_line_1 : decode cX15_line 1 = .ok (.iconst 0, 1) := by decide +kernel
theorem dX15_line_2 : decode cX15_line 2 = .ok (.invokevirtual 199, 3) := by decide +kernel
theorem dX15_line_5 : decode cX15_line 5 = .ok (.ifCond .eq 10, 3) := by decide +kernel
theorem dX15_line_8 : decode cX15_line 8 = .ok (.aload_n 0, 1) := by decide +kernel
theorem dX15_line_9 : decode cX15_line 9 = .ok (.invokevirtual 242, 3) := by decide +kernel
theorem dX15_line_12 : decode cX15_line 12 = .ok (.goto 110, 3) := by decide +kernel
theorem dX15_line_15 : decode cX15_line 15 = .ok (.aload_n 0, 1) := by decide +kernel
theorem dX15_line_16 : decode cX15_line 16 = .ok (.bipush 7, 2) := by decide +kernel
theorem dX15_line_18 : decode cX15_line 18 = .ok (.invokevirtual 199, 3) := by decide +kernel
theorem dX15_line_21 : decode cX15_line 21 = .ok (.ifCond .eq 20, 3) := by decide +kernel
theorem dX15_line_24 : decode cX15_line 24 = .ok (.aload_n 0, 1) := by decide +kernel
theorem dX15_line_25 : decode cX15_line 25 = .ok (.getfield 39, 3) := by decide +kernel
theorem dX15_line_28 : decode cX15_line 28 = .ok (.aload_n 0, 1) := by decide +kernel
theorem dX15_line_29 : decode cX15_line 29 = .ok (.iconst 0, 1) := by decide +kernel
theorem dX15_line_30 : decode cX15_line 30 = .ok (.bipush 20, 2) := by decide +kernel
theorem dX15_line_32 : decode cX15_line 32 = .ok (.invokevirtual 208, 3) := by decide +kernel
theorem dX15_line_35 : decode cX15_line 35 = .ok (.putfield 244, 3) := by decide +kernel
theorem dX15_line_38 : decode cX15_line 38 = .ok (.goto 84, 3) := by decide +kernel
theorem dX15_line_41 : decode cX15_line 41 = .ok (.aload_n 0, 1) := by decide +kernel
theorem dX15_line_42 : decode cX15_line 42 = .ok (.bipush 8, 2) := by decide +kernel
theorem dX15_line_44 : decode cX15_line 44 = .ok (.invokevirtual 199, 3) := by decide +kernel
theorem dX15_line_47 : decode cX15_line 47 = .ok (.ifCond .eq 20, 3) := by decide +kernel
theorem dX15_line_50 : decode cX15_line 50 = .ok (.aload_n 0, 1) := by decide +kernel
theorem dX15_line_51 : decode cX15_line 51 = .ok (.getfield 39, 3) := by decide +kernel
theorem dX15_line_54 : decode cX15_line 54 = .ok (.aload_n 0, 1) := by decide +kernel
theorem dX15_line_55 : decode cX15_line 55 = .ok (.iconst 0, 1) := by decide +kernel
theorem dX15_line_56 : decode cX15_line 56 = .ok (.bipush 99, 2) := by decide +kernel
theorem dX15_line_58 : decode cX15_line 58 = .ok (.invokevirtual 208, 3) := by decide +kernel
theorem dX15_line_61 : decode cX15_line 61 = .ok (.putfield 247, 3) := by decide +kernel
theorem dX15_line_64 : decode cX15_line 64 = .ok (.goto 58, 3) := by decide +kernel
theorem dX15_line_67 : decode cX15_line 67 = .ok (.aload_n 0, 1) := by decide +kernel
theorem dX15_line_68 : decode cX15_line 68 = .ok (.bipush 9, 2) := by decide +kernel
theorem dX15_line_70 : decode cX15_line 70 = .ok (.invokevirtual 126, 3) := by decide +kernel
theorem dX15_line_73 : decode cX15_line 73 = .ok (.ifCond .eq 11, 3) := by decide +kernel
theorem dX15_line_76 : decode cX15_line 76 = .ok (.aload_n 0, 1) := by decide +kernel
theorem dX15_line_77 : decode cX15_line 77 = .ok (.iconst 0, 1) := by decide +kernel
theorem dX15_line_78 : decode cX15_line 78 = .ok (.invokevirtual 250, 3) := by decide +kernel
theorem dX15_line_81 : decode cX15_line 81 = .ok (.goto 41, 3) := by decide +kernel
theorem dX15_line_84 : decode cX15_line 84 = .ok (.aload_n 0, 1) := by decide +kernel
theorem dX15_line_85 : decode cX15_line 85 = .ok (.bipush 10, 2) := by decide +kernel
theorem dX15_line_87 : decode cX15_line 87 = .ok (.invokevirtual 126, 3) := by decide +kernel
theorem dX15_line_90 : decode cX15_line 90 = .ok (.ifCond .eq 11, 3) := by decide +kernel
theorem dX15_line_93 : decode cX15_line 93 = .ok (.aload_n 0, 1) := by decide +kernel
theorem dX15_line_94 : decode cX15_line 94 = .ok (.iconst 1, 1) := by decide +kernel
theorem dX15_line_95 : decode cX15_line 95 = .ok (.invokevirtual 250, 3) := by decide +kernel
theorem dX15_line_98 : decode cX15_line 98 = .ok (.goto 24, 3) := by decide +kernel
theorem dX15_line_101 : decode cX15_line 101 = .ok (.aload_n 0, 1) := by decide +kernel
theorem dX15_line_102 : decode cX15_line 102 = .ok (.bipush 11, 2) := by decide +kernel
theorem dX15_line_104 : decode cX15_line 104 = .ok (.invokevirtual 126, 3) := by decide +kernel
theorem dX15_line_107 : decode cX15_line 107 = .ok (.ifCond .eq 11, 3) := by decide +kernel
theorem dX15_line_110 : decode cX15_line 110 = .ok (.aload_n 0, 1) := by decide +kernel
theorem dX15_line_111 : decode cX15_line 111 = .ok (.iconst 2, 1) := by decide +kernel
theorem dX15_line_112 : decode cX15_line 112 = .ok (.invokevirtual 250, 3) := by decide +kernel
theorem dX15_line_115 : decode cX15_line 115 = .ok (.goto 7, 3) := by decide +kernel
theorem dX15_line_118 : decode cX15_line 118 = .ok (.aload_n 0, 1) := by decide +kernel
theorem dX15_line_119 : decode cX15_line 119 = .ok (.invokevirtual 129, 3) := by decide +kernel
theorem dX15_line_122 : decode cX15_line 122 = .ok (.return_, 1) := by decide +kernel
theorem dX15_feed_0 : decode cX15_feed 0 = .ok (.aload_n 0, 1) := by decide +kernel
theorem dX15_feed_1 : decode cX15_feed 1 = .ok (.iconst 0, 1) := by decide +kernel
theorem dX15_feed_2 : decode cX15_feed 2 = .ok (.putfield 62, 3) := by decide +kernel
theorem dX15_feed_5 : decode cX15_feed 5 = .ok (.aload_n 0, 1) := by decide +kernel
theorem dX15_feed_6 : decode cX15_feed 6 = .ok (.getfield 69, 3) := by decide +kernel
theorem dX15_feed_9 : decode cX15_feed 9 = .ok (.bipush 20, 2) := by decide +kernel
theorem dX15_feed_11 : decode cX15_feed 11 = .ok (.iadd, 1) := by decide +kernel
theorem dX15_feed_12 : decode cX15_feed 12 = .ok (.sipush 2000, 3) := by decide +kernel
theorem dX15_feed_15 : decode cX15_feed 15 = .ok (.if_icmp .le 9, 3) := by decide +kernel
theorem dX15_feed_18 : decode cX15_feed 18 = .ok (.aload_n 0, 1) := by decide +kernel
theorem dX15_feed_19 : decode cX15_feed 19 = .ok (.iconst 1, 1) := by decide +kernel
theorem dX15_feed_20 : decode cX15_feed 20 = .ok (.invokevirtual 253, 3) := by decide +kernel
theorem dX15_feed_23 : decode cX15_feed 23 = .ok (.ireturn, 1) := by decide +kernel
theorem dX15_feed_24 : decode cX15_feed 24 = .ok (.iconst 5, 1) := by decide +kernel
theorem dX15_feed_25 : decode cX15_feed 25 = .ok (.newarray .int, 2) := by decide +kernel
theorem dX15_feed_27 : decode cX15_feed 27 = .ok (.dup, 1) := by decide +kernel
theorem dX15_feed_28 : decode cX15_feed 28 = .ok (.iconst 0, 1) := by decide +kernel
theorem dX15_feed_29 : decode cX15_feed 29 = .ok (.iload_n 1, 1) := by decide +kernel
theorem dX15_feed_30 : decode cX15_feed 30 = .ok (.iastore, 1) := by decide +kernel
theorem dX15_feed_31 : decode cX15_feed 31 = .ok (.dup, 1) := by decide +kernel
theorem dX15_feed_32 : decode cX15_feed 32 = .ok (.iconst 1, 1) := by decide +kernel
theorem dX15_feed_33 : decode cX15_feed 33 = .ok (.iload_n 2, 1) := by decide +kernel
theorem dX15_feed_34 : decode cX15_feed 34 = .ok (.iastore, 1) := by decide +kernel
theorem dX15_feed_35 : decode cX15_feed 35 = .ok (.dup, 1) := by decide +kernel
theorem dX15_feed_36 : decode cX15_feed 36 = .ok (.iconst 2, 1) := by decide +kernel
theorem dX15_feed_37 : decode cX15_feed 37 = .ok (.iload_n 3, 1) := by decide +kernel
theorem dX15_feed_38 : decode cX15_feed 38 = .ok (.iastore, 1) := by decide +kernel
theorem dX15_feed_39 : decode cX15_feed 39 = .ok (.dup, 1) := by decide +kernel
theorem dX15_feed_40 : decode cX15_feed 40 = .ok (.iconst 3, 1) := by decide +kernel
theorem dX15_feed_41 : decode cX15_feed 41 = .ok (.iload 4, 2) := by decide +kernel
theorem dX15_feed_43 : decode cX15_feed 43 = .ok (.iastore, 1) := by decide +kernel
theorem dX15_feed_44 : decode cX15_feed 44 = .ok (.dup, 1) := by decide +kernel
theorem dX15_feed_45 : decode cX15_feed 45 = .ok (.iconst 4, 1) := by decide +kernel
theorem dX15_feed_46 : decode cX15_feed 46 = .ok (.iload 5, 2) := by decide +kernel
theorem dX15_feed_48 : decode cX15_feed 48 = .ok (.iastore, 1) := by decide +kernel
theorem dX15_feed_49 : decode cX15_feed 49 = .ok (.astore 6, 2) := by decide +kernel
theorem dX15_feed_51 : decode cX15_feed 51 = .ok (.aload 6, 2) := by decide +kernel
theorem dX15_feed_53 : decode cX15_feed 53 = .ok (.astore 7, 2) := by decide +kernel
theorem dX15_feed_55 : decode cX15_feed 55 = .ok (.aload 7, 2) := by decide +kernel
theorem dX15_feed_57 : decode cX15_feed 57 = .ok (.arraylength, 1) := by decide +kernel
theorem dX15_feed_58 : decode cX15_feed 58 = .ok (.istore 8, 2) := by decide +kernel
theorem dX15_feed_60 : decode cX15_feed 60 = .ok (.iconst 0, 1) := by decide +kernel
theorem dX15_feed_61 : decode cX15_feed 61 = .ok (.istore 9, 2) := by decide +kernel
theorem dX15_feed_63 : decode cX15_feed 63 = .ok (.iload 9, 2) := by decide +kernel
theorem dX15_feed_65 : decode cX15_feed 65 = .ok (.iload 8, 2) := by decide +kernel
theorem dX15_feed_67 : decode cX15_feed 67 = .ok (.if_icmp .ge 59, 3) := by decide +kernel
theorem dX15_feed_70 : decode cX15_feed 70 = .ok (.aload 7, 2) := by decide +kernel
theorem dX15_feed_72 : decode cX15_feed 72 = .ok (.iload 9, 2) := by decide +kernel
theorem dX15_feed_74 : decode cX15_feed 74 = .ok (.iaload, 1) := by decide +kernel
theorem dX15_feed_75 : decode cX15_feed 75 = .ok (.istore 10, 2) := by decide +kernel
theorem dX15_feed_77 : decode cX15_feed 77 = .ok (.bipush 24, 2) := by decide +kernel
theorem dX15_feed_79 : decode cX15_feed 79 = .ok (.istore 11, 2) := by decide +kernel
theorem dX15_feed_81 : decode cX15_feed 81 = .ok (.iload 11, 2) := by decide +kernel
theorem dX15_feed_83 : decode cX15_feed 83 = .ok (.ifCond .lt 37, 3) := by decide +kernel
theorem dX15_feed_86 : decode cX15_feed 86 = .ok (.aload_n 0, 1) := by decide +kernel
theorem dX15_feed_87 : decode cX15_feed 87 = .ok (.getfield 9, 3) := by decide +kernel
theorem dX15_feed_90 : decode cX15_feed 90 = .ok (.aload_n 0, 1) := by decide +kernel
theorem dX15_feed_91 : decode cX15_feed 91 = .ok (.getfield 69, 3) := by decide +kernel
theorem dX15_feed_94 : decode cX15_feed 94 = .ok (.iload 10, 2) := by decide +kernel
theorem dX15_feed_96 : decode cX15_feed 96 = .ok (.iload 11, 2) := by decide +kernel
theorem dX15_feed_98 : decode cX15_feed 98 = .ok (.ishr, 1) := by decide +kernel
theorem dX15_feed_99 : decode cX15_feed 99 = .ok (.sipush 255, 3) := by decide +kernel
theorem dX15_feed_102 : decode cX15_feed 102 = .ok (.iand, 1) := by decide +kernel
theorem dX15_feed_103 : decode cX15_feed 103 = .ok (.iastore, 1) := by decide +kernel
theorem dX15_feed_104 : decode cX15_feed 104 = .ok (.aload_n 0, 1) := by decide +kernel
theorem dX15_feed_105 : decode cX15_feed 105 = .ok (.dup, 1) := by decide +kernel
theorem dX15_feed_106 : decode cX15_feed 106 = .ok (.getfield 69, 3) := by decide +kernel
theorem dX15_feed_109 : decode cX15_feed 109 = .ok (.iconst 1, 1) := by decide +kernel
theorem dX15_feed_110 : decode cX15_feed 110 = .ok (.iadd, 1) := by decide +kernel
theorem dX15_feed_111 : decode cX15_feed 111 = .ok (.putfield 69, 3) := by decide +kernel
theorem dX15_feed_114 : decode cX15_feed 114 = .ok (.iinc 11 (-8), 3) := by decide +kernel
theorem dX15_feed_117 : decode cX15_feed 117 = .ok (.goto (-36), 3) := by decide +kernel
theorem dX15_feed_120 : decode cX15_feed 120 = .ok (.iinc 9 1, 3) := by decide +kernel
theorem dX15_feed_123 : decode cX15_feed 123 = .ok (.goto (-60), 3) := by decide +kernel
theorem dX15_feed_126 : decode cX15_feed 126 = .ok (.aload_n 0, 1) := by decide +kernel
theorem dX15_feed_127 : decode cX15_feed 127 = .ok (.getfield 69, 3) := by decide +kernel
theorem dX15_feed_130 : decode cX15_feed 130 = .ok (.ireturn, 1) := by decide +kernel
theorem dX15_trim_0 : decode cX15_trim 0 = .ok (.aload_n 0, 1) := by decide +kernel
theorem dX15_trim_1 : decode cX15_trim 1 = .ok (.iconst 0, 1) := by decide +kernel
theorem dX15_trim_2 : decode cX15_trim 2 = .ok (.putfield 62, 3) := by decide +kernel
theorem dX15_trim_5 : decode cX15_trim 5 = .ok (.iload_n 1, 1) := by decide +kernel
theorem dX15_trim_6 : decode cX15_trim 6 = .ok (.iconst 0, 1) := by decide +kernel
theorem dX15_trim_7 : decode cX15_trim 7 = .ok (.aload_n 0, 1) := by decide +kernel
theorem dX15_trim_8 : decode cX15_trim 8 = .ok (.getfield 69, 3) := by decide +kernel
theorem dX15_trim_11 : decode cX15_trim 11 = .ok (.invokestatic 65, 3) := by decide +kernel
theorem dX15_trim_14 : decode cX15_trim 14 = .ok (.ifCond .ne 9, 3) := by decide +kernel
theorem dX15_trim_17 : decode cX15_trim 17 = .ok (.aload_n 0, 1) := by decide +kernel
theorem dX15_trim_18 : decode cX15_trim 18 = .ok (.iconst 1, 1) := by decide +kernel
theorem dX15_trim_19 : decode cX15_trim 19 = .ok (.invokevirtual 253, 3) := by decide +kernel
theorem dX15_trim_22 : decode cX15_trim 22 = .ok (.ireturn, 1) := by decide +kernel
theorem dX15_trim_23 : decode cX15_trim 23 = .ok (.aload_n 0, 1) := by decide +kernel
theorem dX15_trim_24 : decode cX15_trim 24 = .ok (.iload_n 1, 1) := by decide +kernel
theorem dX15_trim_25 : decode cX15_trim 25 = .ok (.putfield 69, 3) := by decide +kernel
theorem dX15_trim_28 : decode cX15_trim 28 = .ok (.iload_n 1, 1) := by decide +kernel
theorem dX15_trim_29 : decode cX15_trim 29 = .ok (.ireturn, 1) := by decide +kernel
theorem dX15_teach_0 : decode cX15_teach 0 = .ok (.aload_n 0, 1) := by decide +kernel
theorem dX15_teach_1 : decode cX15_teach 1 = .ok (.iconst 0, 1) := by decide +kernel
theorem dX15_teach_2 : decode cX15_teach 2 = .ok (.putfield 62, 3) := by decide +kernel
theorem dX15_teach_5 : decode cX15_teach 5 = .ok (.aload_n 0, 1) := by decide +kernel
theorem dX15_teach_6 : decode cX15_teach 6 = .ok (.iconst 0, 1) := by decide +kernel
theorem dX15_teach_7 : decode cX15_teach 7 = .ok (.putfield 117, 3) := by decide +kernel
theorem dX15_teach_10 : decode cX15_teach 10 = .ok (.aload_n 0, 1) := by decide +kernel
theorem dX15_teach_11 : decode cX15_teach 11 = .ok (.iconst 0, 1) := by decide +kernel
theorem dX15_teach_12 : decode cX15_teach 12 = .ok (.putfield 113, 3) := by decide +kernel
theorem dX15_teach_15 : decode cX15_teach 15 = .ok (.aload_n 0, 1) := by decide +kernel
theorem dX15_teach_16 : decode cX15_teach 16 = .ok (.iconst 0, 1) := by decide +kernel
theorem dX15_teach_17 : decode cX15_teach 17 = .ok (.putfield 120, 3) := by decide +kernel
theorem dX15_teach_20 : decode cX15_teach 20 = .ok (.aload_n 0, 1) := by decide +kernel
theorem dX15_teach_21 : decode cX15_teach 21 = .ok (.iconst 0, 1) := by decide +kernel
theorem dX15_teach_22 : decode cX15_teach 22 = .ok (.putfield 132, 3) := by decide +kernel
theorem dX15_teach_25 : decode cX15_teach 25 = .ok (.aload_n 0, 1) := by decide +kernel
theorem dX15_teach_26 : decode cX15_teach 26 = .ok (.getfield 39, 3) := by decide +kernel
theorem dX15_teach_29 : decode cX15_teach 29 = .ok (.invokevirtual 256, 3) := by decide +kernel
theorem dX15_teach_32 : decode cX15_teach 32 = .ok (.aload_n 0, 1) := by decide +kernel
theorem dX15_teach_33 : decode cX15_teach 33 = .ok (.invokevirtual 258, 3) := by decide +kernel
theorem dX15_teach_36 : decode cX15_teach 36 = .ok (.aload_n 0, 1) := by decide +kernel
theorem dX15_teach_37 : decode cX15_teach 37 = .ok (.getfield 113, 3) := by decide +kernel
theorem dX15_teach_40 : decode cX15_teach 40 = .ok (.ifCond .ne 30, 3) := by decide +kernel
theorem dX15_teach_43 : decode cX15_teach 43 = .ok (.aload_n 0, 1) := by decide +kernel
theorem dX15_teach_44 : decode cX15_teach 44 = .ok (.getfield 17, 3) := by decide +kernel
theorem dX15_teach_47 : decode cX15_teach 47 = .ok (.aload_n 0, 1) := by decide +kernel
theorem dX15_teach_48 : decode cX15_teach 48 = .ok (.getfield 117, 3) := by decide +kernel
theorem dX15_teach_51 : decode cX15_teach 51 = .ok (.iaload, 1) := by decide +kernel
theorem dX15_teach_52 : decode cX15_teach 52 = .ok (.bipush 33, 2) := by decide +kernel
theorem dX15_teach_54 : decode cX15_teach 54 = .ok (.if_icmp .eq 16, 3) := by decide +kernel
theorem dX15_teach_57 : decode cX15_teach 57 = .ok (.aload_n 0, 1) := by decide +kernel
theorem dX15_teach_58 : decode cX15_teach 58 = .ok (.invokevirtual 261, 3) := by decide +kernel
theorem dX15_teach_61 : decode cX15_teach 61 = .ok (.aload_n 0, 1) := by decide +kernel
theorem dX15_teach_62 : decode cX15_teach 62 = .ok (.bipush 53, 2) := by decide +kernel
theorem dX15_teach_64 : decode cX15_teach 64 = .ok (.invokevirtual 161, 3) := by decide +kernel
theorem dX15_teach_67 : decode cX15_teach 67 = .ok (.goto (-31), 3) := by decide +kernel
theorem dX15_teach_70 : decode cX15_teach 70 = .ok (.aload_n 0, 1) := by decide +kernel
theorem dX15_teach_71 : decode cX15_teach 71 = .ok (.iconst 0, 1) := by decide +kernel
theorem dX15_teach_72 : decode cX15_teach 72 = .ok (.putfield 69, 3) := by decide +kernel
theorem dX15_teach_75 : decode cX15_teach 75 = .ok (.aload_n 0, 1) := by decide +kernel
theorem dX15_teach_76 : decode cX15_teach 76 = .ok (.aload_n 0, 1) := by decide +kernel
theorem dX15_teach_77 : decode cX15_teach 77 = .ok (.getfield 120, 3) := by decide +kernel
theorem dX15_teach_80 : decode cX15_teach 80 = .ok (.ifCond .ne 7, 3) := by decide +kernel
theorem dX15_teach_83 : decode cX15_teach 83 = .ok (.iconst (-1), 1) := by decide +kernel
theorem dX15_teach_84 : decode cX15_teach 84 = .ok (.goto 12, 3) := by decide +kernel
theorem dX15_teach_87 : decode cX15_teach 87 = .ok (.aload_n 0, 1) := by decide +kernel
theorem dX15_teach_88 : decode cX15_teach 88 = .ok (.getfield 23, 3) := by decide +kernel
theorem dX15_teach_91 : decode cX15_teach 91 = .ok (.aload_n 0, 1) := by decide +kernel
theorem dX15_teach_92 : decode cX15_teach 92 = .ok (.getfield 123, 3) := by decide +kernel
theorem dX15_teach_95 : decode cX15_teach 95 = .ok (.iaload, 1) := by decide +kernel
theorem dX15_teach_96 : decode cX15_teach 96 = .ok (.putfield 13, 3) := by decide +kernel
theorem dX15_teach_99 : decode cX15_teach 99 = .ok (.aload_n 0, 1) := by decide +kernel
theorem dX15_teach_100 : decode cX15_teach 100 = .ok (.getfield 120, 3) := by decide +kernel
theorem dX15_teach_103 : decode cX15_teach 103 = .ok (.ifCond .eq 8, 3) := by decide +kernel
theorem dX15_teach_106 : decode cX15_teach 106 = .ok (.aload_n 0, 1) := by decide +kernel
theorem dX15_teach_107 : decode cX15_teach 107 = .ok (.getfield 120, 3) := by decide +kernel
theorem dX15_teach_110 : decode cX15_teach 110 = .ok (.ireturn, 1) := by decide +kernel
theorem dX15_teach_111 : decode cX15_teach 111 = .ok (.aload_n 0, 1) := by decide +kernel
theorem dX15_teach_112 : decode cX15_teach 112 = .ok (.getfield 35, 3) := by decide +kernel
theorem dX15_teach_115 : decode cX15_teach 115 = .ok (.aload_n 0, 1) := by decide +kernel
theorem dX15_teach_116 : decode cX15_teach 116 = .ok (.getfield 39, 3) := by decide +kernel
theorem dX15_teach_119 : decode cX15_teach 119 = .ok (.invokevirtual 264, 3) := by decide +kernel
theorem dX15_teach_122 : decode cX15_teach 122 = .ok (.aload_n 0, 1) := by decide +kernel
theorem dX15_teach_123 : decode cX15_teach 123 = .ok (.getfield 48, 3) := by decide +kernel
theorem dX15_teach_126 : decode cX15_teach 126 = .ok (.aload_n 0, 1) := by decide +kernel
theorem dX15_teach_127 : decode cX15_teach 127 = .ok (.getfield 35, 3) := by decide +kernel
theorem dX15_teach_130 : decode cX15_teach 130 = .ok (.invokevirtual 58, 3) := by decide +kernel
theorem dX15_teach_133 : decode cX15_teach 133 = .ok (.iconst 0, 1) := by decide +kernel
theorem dX15_teach_134 : decode cX15_teach 134 = .ok (.ireturn, 1) := by decide +kernel
theorem dX15_errorAt_0 : decode cX15_errorAt 0 = .ok (.aload_n 0, 1) := by decide +kernel
theorem dX15_errorAt_1 : decode cX15_errorAt 1 = .ok (.aload_n 0, 1) := by decide +kernel
theorem dX15_errorAt_2 : decode cX15_errorAt 2 = .ok (.getfield 13, 3) := by decide +kernel
theorem dX15_errorAt_5 : decode cX15_errorAt 5 = .ok (.invokevirtual 267, 3) := by decide +kernel
theorem dX15_errorAt_8 : decode cX15_errorAt 8 = .ok (.ireturn, 1) := by decide +kernel
theorem dX15_contour_0 : decode cX15_contour 0 = .ok (.iload_n 2, 1) := by decide +kernel
theorem dX15_contour_1 : decode cX15_contour 1 = .ok (.iconst 1, 1) := by decide +kernel
theorem dX15_contour_2 : decode cX15_contour 2 = .ok (.iadd, 1) := by decide +kernel
theorem dX15_contour_3 : decode cX15_contour 3 = .ok (.aload_n 0, 1) := by decide +kernel
theorem dX15_contour_4 : decode cX15_contour 4 = .ok (.getfield 270, 3) := by decide +kernel
theorem dX15_contour_7 : decode cX15_contour 7 = .ok (.iload_n 1, 1) := by decide +kernel
theorem dX15_contour_8 : decode cX15_contour 8 = .ok (.iaload, 1) := by decide +kernel
theorem dX15_contour_9 : decode cX15_contour 9 = .ok (.if_icmp .lt 5, 3) := by decide +kernel
theorem dX15_contour_12 : decode cX15_contour 12 = .ok (.iconst 0, 1) := by decide +kernel
theorem dX15_contour_13 : decode cX15_contour 13 = .ok (.ireturn, 1) := by decide +kernel
theorem dX15_contour_14 : decode cX15_contour 14 = .ok (.bipush 24, 2) := by decide +kernel
theorem dX15_contour_16 : decode cX15_contour 16 = .ok (.iload_n 1, 1) := by decide +kernel
theorem dX15_contour_17 : decode cX15_contour 17 = .ok (.imul, 1) := by decide +kernel
theorem dX15_contour_18 : decode cX15_contour 18 = .ok (.iload_n 2, 1) := by decide +kernel
theorem dX15_contour_19 : decode cX15_contour 19 = .ok (.iadd, 1) := by decide +kernel
theorem dX15_contour_20 : decode cX15_contour 20 = .ok (.istore_n 3, 1) := by decide +kernel
theorem dX15_contour_21 : decode cX15_contour 21 = .ok (.aload_n 0, 1) := by decide +kernel
theorem dX15_contour_22 : decode cX15_contour 22 = .ok (.getfield 271, 3) := by decide +kernel
theorem dX15_contour_25 : decode cX15_contour 25 = .ok (.iload_n 3, 1) := by decide +kernel
theorem dX15_contour_26 : decode cX15_contour 26 = .ok (.iconst 1, 1) := by decide +kernel
theorem dX15_contour_27 : decode cX15_contour 27 = .ok (.iadd, 1) := by decide +kernel
theorem dX15_contour_28 : decode cX15_contour 28 = .ok (.iaload, 1) := by decide +kernel
theorem dX15_contour_29 : decode cX15_contour 29 = .ok (.aload_n 0, 1) := by decide +kernel
theorem dX15_contour_30 : decode cX15_contour 30 = .ok (.getfield 271, 3) := by decide +kernel
theorem dX15_contour_33 : decode cX15_contour 33 = .ok (.iload_n 3, 1) := by decide +kernel
theorem dX15_contour_34 : decode cX15_contour 34 = .ok (.iaload, 1) := by decide +kernel
theorem dX15_contour_35 : decode cX15_contour 35 = .ok (.isub, 1) := by decide +kernel
theorem dX15_contour_36 : decode cX15_contour 36 = .ok (.invokestatic 272, 3) := by decide +kernel
theorem dX15_contour_39 : decode cX15_contour 39 = .ok (.ireturn, 1) := by decide +kernel
theorem dX15_cost_0 : decode cX15_cost 0 = .ok (.iload 5, 2) := by decide +kernel
theorem dX15_cost_2 : decode cX15_cost 2 = .ok (.ifCond .eq 25, 3) := by decide +kernel
theorem dX15_cost_5 : decode cX15_cost 5 = .ok (.aload_n 0, 1) := by decide +kernel
theorem dX15_cost_6 : decode cX15_cost 6 = .ok (.iload_n 1, 1) := by decide +kernel
theorem dX15_cost_7 : decode cX15_cost 7 = .ok (.iload_n 2, 1) := by decide +kernel
theorem dX15_cost_8 : decode cX15_cost 8 = .ok (.invokestatic 277, 3) := by decide +kernel
theorem dX15_cost_11 : decode cX15_cost 11 = .ok (.aload_n 0, 1) := by decide +kernel
theorem dX15_cost_12 : decode cX15_cost 12 = .ok (.iload_n 3, 1) := by decide +kernel
theorem dX15_cost_13 : decode cX15_cost 13 = .ok (.iload 4, 2) := by decide +kernel
theorem dX15_cost_15 : decode cX15_cost 15 = .ok (.invokestatic 277, 3) := by decide +kernel
theorem dX15_cost_18 : decode cX15_cost 18 = .ok (.if_icmp .ne 7, 3) := by decide +kernel
theorem dX15_cost_21 : decode cX15_cost 21 = .ok (.iconst 0, 1) := by decide +kernel
theorem dX15_cost_22 : decode cX15_cost 22 = .ok (.goto 4, 3) := by decide +kernel
theorem dX15_cost_25 : decode cX15_cost 25 = .ok (.iconst 1, 1) := by decide +kernel
theorem dX15_cost_26 : decode cX15_cost 26 = .ok (.ireturn, 1) := by decide +kernel
theorem dX15_cost_27 : decode cX15_cost 27 = .ok (.aload_n 0, 1) := by decide +kernel
theorem dX15_cost_28 : decode cX15_cost 28 = .ok (.getfield 271, 3) := by decide +kernel
theorem dX15_cost_31 : decode cX15_cost 31 = .ok (.bipush 24, 2) := by decide +kernel
theorem dX15_cost_33 : decode cX15_cost 33 = .ok (.iload_n 1, 1) := by decide +kernel
theorem dX15_cost_34 : decode cX15_cost 34 = .ok (.imul, 1) := by decide +kernel
theorem dX15_cost_35 : decode cX15_cost 35 = .ok (.iload_n 2, 1) := by decide +kernel
theorem dX15_cost_36 : decode cX15_cost 36 = .ok (.iadd, 1) := by decide +kernel
theorem dX15_cost_37 : decode cX15_cost 37 = .ok (.iaload, 1) := by decide +kernel
theorem dX15_cost_38 : decode cX15_cost 38 = .ok (.istore 6, 2) := by decide +kernel
theorem dX15_cost_40 : decode cX15_cost 40 = .ok (.aload_n 0, 1) := by decide +kernel
theorem dX15_cost_41 : decode cX15_cost 41 = .ok (.getfield 271, 3) := by decide +kernel
theorem dX15_cost_44 : decode cX15_cost 44 = .ok (.bipush 24, 2) := by decide +kernel
theorem dX15_cost_46 : decode cX15_cost 46 = .ok (.iload_n 3, 1) := by decide +kernel
theorem dX15_cost_47 : decode cX15_cost 47 = .ok (.imul, 1) := by decide +kernel
theorem dX15_cost_48 : decode cX15_cost 48 = .ok (.iload 4, 2) := by decide +kernel
theorem dX15_cost_50 : decode cX15_cost 50 = .ok (.iadd, 1) := by decide +kernel
theorem dX15_cost_51 : decode cX15_cost 51 = .ok (.iaload, 1) := by decide +kernel
theorem dX15_cost_52 : decode cX15_cost 52 = .ok (.istore 7, 2) := by decide +kernel
theorem dX15_cost_54 : decode cX15_cost 54 = .ok (.iload 6, 2) := by decide +kernel
theorem dX15_cost_56 : decode cX15_cost 56 = .ok (.ifCond .eq 8, 3) := by decide +kernel
theorem dX15_cost_59 : decode cX15_cost 59 = .ok (.iload 7, 2) := by decide +kernel
theorem dX15_cost_61 : decode cX15_cost 61 = .ok (.ifCond .ne 17, 3) := by decide +kernel
theorem dX15_cost_64 : decode cX15_cost 64 = .ok (.iload 6, 2) := by decide +kernel
theorem dX15_cost_66 : decode cX15_cost 66 = .ok (.iload 7, 2) := by decide +kernel
theorem dX15_cost_68 : decode cX15_cost 68 = .ok (.if_icmp .ne 7, 3) := by decide +kernel
theorem dX15_cost_71 : decode cX15_cost 71 = .ok (.iconst 0, 1) := by decide +kernel
theorem dX15_cost_72 : decode cX15_cost 72 = .ok (.goto 5, 3) := by decide +kernel
theorem dX15_cost_75 : decode cX15_cost 75 = .ok (.bipush 10, 2) := by decide +kernel
theorem dX15_cost_77 : decode cX15_cost 77 = .ok (.ireturn, 1) := by decide +kernel
theorem dX15_cost_78 : decode cX15_cost 78 = .ok (.iload 6, 2) := by decide +kernel
theorem dX15_cost_80 : decode cX15_cost 80 = .ok (.iload 7, 2) := by decide +kernel
theorem dX15_cost_82 : decode cX15_cost 82 = .ok (.isub, 1) := by decide +kernel
theorem dX15_cost_83 : decode cX15_cost 83 = .ok (.invokestatic 281, 3) := by decide +kernel
theorem dX15_cost_86 : decode cX15_cost 86 = .ok (.ireturn, 1) := by decide +kernel
theorem dX15_way_0 : decode cX15_way 0 = .ok (.aload_n 1, 1) := by decide +kernel
theorem dX15_way_1 : decode cX15_way 1 = .ok (.getfield 270, 3) := by decide +kernel
theorem dX15_way_4 : decode cX15_way 4 = .ok (.iload_n 2, 1) := by decide +kernel
theorem dX15_way_5 : decode cX15_way 5 = .ok (.iaload, 1) := by decide +kernel
theorem dX15_way_6 : decode cX15_way 6 = .ok (.istore 5, 2) := by decide +kernel
theorem dX15_way_8 : decode cX15_way 8 = .ok (.aload_n 1, 1) := by decide +kernel
theorem dX15_way_9 : decode cX15_way 9 = .ok (.getfield 270, 3) := by decide +kernel
theorem dX15_way_12 : decode cX15_way 12 = .ok (.iload_n 3, 1) := by decide +kernel
theorem dX15_way_13 : decode cX15_way 13 = .ok (.iaload, 1) := by decide +kernel
theorem dX15_way_14 : decode cX15_way 14 = .ok (.istore 6, 2) := by decide +kernel
theorem dX15_way_16 : decode cX15_way 16 = .ok (.aload_n 0, 1) := by decide +kernel
theorem dX15_way_17 : decode cX15_way 17 = .ok (.getfield 35, 3) := by decide +kernel
theorem dX15_way_20 : decode cX15_way 20 = .ok (.getfield 244, 3) := by decide +kernel
theorem dX15_way_23 : decode cX15_way 23 = .ok (.iload 5, 2) := by decide +kernel
theorem dX15_way_25 : decode cX15_way 25 = .ok (.iload 6, 2) := by decide +kernel
theorem dX15_way_27 : decode cX15_way 27 = .ok (.isub, 1) := by decide +kernel
theorem dX15_way_28 : decode cX15_way 28 = .ok (.invokestatic 281, 3) := by decide +kernel
theorem dX15_way_31 : decode cX15_way 31 = .ok (.iadd, 1) := by decide +kernel
theorem dX15_way_32 : decode cX15_way 32 = .ok (.istore 7, 2) := by decide +kernel
theorem dX15_way_34 : decode cX15_way 34 = .ok (.iconst 0, 1) := by decide +kernel
theorem dX15_way_35 : decode cX15_way 35 = .ok (.istore 8, 2) := by decide +kernel
theorem dX15_way_37 : decode cX15_way 37 = .ok (.iload 8, 2) := by decide +kernel
theorem dX15_way_39 : decode cX15_way 39 = .ok (.iload 5, 2) := by decide +kernel
theorem dX15_way_41 : decode cX15_way 41 = .ok (.if_icmp .ge 191, 3) := by decide +kernel
theorem dX15_way_44 : decode cX15_way 44 = .ok (.iconst 0, 1) := by decide +kernel
theorem dX15_way_45 : decode cX15_way 45 = .ok (.istore 9, 2) := by decide +kernel
theorem dX15_way_47 : decode cX15_way 47 = .ok (.iload 9, 2) := by decide +kernel
theorem dX15_way_49 : decode cX15_way 49 = .ok (.iload 6, 2) := by decide +kernel
theorem dX15_way_51 : decode cX15_way 51 = .ok (.if_icmp .ge 175, 3) := by decide +kernel
theorem dX15_way_54 : decode cX15_way 54 = .ok (.ldc_w 284, 3) := by decide +kernel
theorem dX15_way_57 : decode cX15_way 57 = .ok (.istore 10, 2) := by decide +kernel
theorem dX15_way_59 : decode cX15_way 59 = .ok (.iload 8, 2) := by decide +kernel
theorem dX15_way_61 : decode cX15_way 61 = .ok (.iload 9, 2) := by decide +kernel
theorem dX15_way_63 : decode cX15_way 63 = .ok (.isub, 1) := by decide +kernel
theorem dX15_way_64 : decode cX15_way 64 = .ok (.invokestatic 281, 3) := by decide +kernel
theorem dX15_way_67 : decode cX15_way 67 = .ok (.iload 7, 2) := by decide +kernel
theorem dX15_way_69 : decode cX15_way 69 = .ok (.if_icmp .gt 136, 3) := by decide +kernel
theorem dX15_way_72 : decode cX15_way 72 = .ok (.iload 8, 2) := by decide +kernel
theorem dX15_way_74 : decode cX15_way 74 = .ok (.iload 9, 2) := by decide +kernel
theorem dX15_way_76 : decode cX15_way 76 = .ok (.iadd, 1) := by decide +kernel
theorem dX15_way_77 : decode cX15_way 77 = .ok (.ifCond .ne 7, 3) := by decide +kernel
theorem dX15_way_80 : decode cX15_way 80 = .ok (.iconst 0, 1) := by decide +kernel
theorem dX15_way_81 : decode cX15_way 81 = .ok (.goto 6, 3) := by decide +kernel
theorem dX15_way_84 : decode cX15_way 84 = .ok (.ldc_w 284, 3) := by decide +kernel
theorem dX15_way_87 : decode cX15_way 87 = .ok (.istore 11, 2) := by decide +kernel
theorem dX15_way_89 : decode cX15_way 89 = .ok (.iload 8, 2) := by decide +kernel
theorem dX15_way_91 : decode cX15_way 91 = .ok (.ifCond .le 25, 3) := by decide +kernel
theorem dX15_way_94 : decode cX15_way 94 = .ok (.iload 11, 2) := by decide +kernel
theorem dX15_way_96 : decode cX15_way 96 = .ok (.aload_n 0, 1) := by decide +kernel
theorem dX15_way_97 : decode cX15_way 97 = .ok (.getfield 55, 3) := by decide +kernel
theorem dX15_way_100 : decode cX15_way 100 = .ok (.bipush 24, 2) := by decide +kernel
theorem dX15_way_102 : decode cX15_way 102 = .ok (.iload 8, 2) := by decide +kernel
theorem dX15_way_104 : decode cX15_way 104 = .ok (.iconst 1, 1) := by decide +kernel
theorem dX15_way_105 : decode cX15_way 105 = .ok (.isub, 1) := by decide +kernel
theorem dX15_way_106 : decode cX15_way 106 = .ok (.imul, 1) := by decide +kernel
theorem dX15_way_107 : decode cX15_way 107 = .ok (.iload 9, 2) := by decide +kernel
theorem dX15_way_109 : decode cX15_way 109 = .ok (.iadd, 1) := by decide +kernel
theorem dX15_way_110 : decode cX15_way 110 = .ok (.iaload, 1) := by decide +kernel
theorem dX15_way_111 : decode cX15_way 111 = .ok (.invokestatic 214, 3) := by decide +kernel
theorem dX15_way_114 : decode cX15_way 114 = .ok (.istore 11, 2) := by decide +kernel
theorem dX15_way_116 : decode cX15_way 116 = .ok (.iload 9, 2) := by decide +kernel
theorem dX15_way_118 : decode cX15_way 118 = .ok (.ifCond .le 25, 3) := by decide +kernel
theorem dX15_way_121 : decode cX15_way 121 = .ok (.iload 11, 2) := by decide +kernel
theorem dX15_way_123 : decode cX15_way 123 = .ok (.aload_n 0, 1) := by decide +kernel
theorem dX15_way_124 : decode cX15_way 124 = .ok (.getfield 55, 3) := by decide +kernel
theorem dX15_way_127 : decode cX15_way 127 = .ok (.bipush 24, 2) := by decide +kernel
theorem dX15_way_129 : decode cX15_way 129 = .ok (.iload 8, 2) := by decide +kernel
theorem dX15_way_131 : decode cX15_way 131 = .ok (.imul, 1) := by decide +kernel
theorem dX15_way_132 : decode cX15_way 132 = .ok (.iload 9, 2) := by decide +kernel
theorem dX15_way_134 : decode cX15_way 134 = .ok (.iadd, 1) := by decide +kernel
theorem dX15_way_135 : decode cX15_way 135 = .ok (.iconst 1, 1) := by decide +kernel
theorem dX15_way_136 : decode cX15_way 136 = .ok (.isub, 1) := by decide +kernel
theorem dX15_way_137 : decode cX15_way 137 = .ok (.iaload, 1) := by decide +kernel
theorem dX15_way_138 : decode cX15_way 138 = .ok (.invokestatic 214, 3) := by decide +kernel
theorem dX15_way_141 : decode cX15_way 141 = .ok (.istore 11, 2) := by decide +kernel
theorem dX15_way_143 : decode cX15_way 143 = .ok (.iload 8, 2) := by decide +kernel
theorem dX15_way_145 : decode cX15_way 145 = .ok (.ifCond .le 32, 3) := by decide +kernel
theorem dX15_way_148 : decode cX15_way 148 = .ok (.iload 9, 2) := by decide +kernel
theorem dX15_way_150 : decode cX15_way 150 = .ok (.ifCond .le 27, 3) := by decide +kernel
theorem dX15_way_153 : decode cX15_way 153 = .ok (.iload 11, 2) := by decide +kernel
theorem dX15_way_155 : decode cX15_way 155 = .ok (.aload_n 0, 1) := by decide +kernel
theorem dX15_way_156 : decode cX15_way 156 = .ok (.getfield 55, 3) := by decide +kernel
theorem dX15_way_159 : decode cX15_way 159 = .ok (.bipush 24, 2) := by decide +kernel
theorem dX15_way_161 : decode cX15_way 161 = .ok (.iload 8, 2) := by decide +kernel
theorem dX15_way_163 : decode cX15_way 163 = .ok (.iconst 1, 1) := by decide +kernel
theorem dX15_way_164 : decode cX15_way 164 = .ok (.isub, 1) := by decide +kernel
theorem dX15_way_165 : decode cX15_way 165 = .ok (.imul, 1) := by decide +kernel
theorem dX15_way_166 : decode cX15_way 166 = .ok (.iload 9, 2) := by decide +kernel
theorem dX15_way_168 : decode cX15_way 168 = .ok (.iadd, 1) := by decide +kernel
theorem dX15_way_169 : decode cX15_way 169 = .ok (.iconst 1, 1) := by decide +kernel
theorem dX15_way_170 : decode cX15_way 170 = .ok (.isub, 1) := by decide +kernel
theorem dX15_way_171 : decode cX15_way 171 = .ok (.iaload, 1) := by decide +kernel
theorem dX15_way_172 : decode cX15_way 172 = .ok (.invokestatic 214, 3) := by decide +kernel
theorem dX15_way_175 : decode cX15_way 175 = .ok (.istore 11, 2) := by decide +kernel
theorem dX15_way_177 : decode cX15_way 177 = .ok (.ldc_w 284, 3) := by decide +kernel
theorem dX15_way_180 : decode cX15_way 180 = .ok (.iload 11, 2) := by decide +kernel
theorem dX15_way_182 : decode cX15_way 182 = .ok (.bipush 100, 2) := by decide +kernel
theorem dX15_way_184 : decode cX15_way 184 = .ok (.aload_n 1, 1) := by decide +kernel
theorem dX15_way_185 : decode cX15_way 185 = .ok (.iload_n 2, 1) := by decide +kernel
theorem dX15_way_186 : decode cX15_way 186 = .ok (.iload 8, 2) := by decide +kernel
theorem dX15_way_188 : decode cX15_way 188 = .ok (.iload_n 3, 1) := by decide +kernel
theorem dX15_way_189 : decode cX15_way 189 = .ok (.iload 9, 2) := by decide +kernel
theorem dX15_way_191 : decode cX15_way 191 = .ok (.iload 4, 2) := by decide +kernel
theorem dX15_way_193 : decode cX15_way 193 = .ok (.invokestatic 285, 3) := by decide +kernel
theorem dX15_way_196 : decode cX15_way 196 = .ok (.imul, 1) := by decide +kernel
theorem dX15_way_197 : decode cX15_way 197 = .ok (.iadd, 1) := by decide +kernel
theorem dX15_way_198 : decode cX15_way 198 = .ok (.iconst 1, 1) := by decide +kernel
theorem dX15_way_199 : decode cX15_way 199 = .ok (.iadd, 1) := by decide +kernel
theorem dX15_way_200 : decode cX15_way 200 = .ok (.invokestatic 214, 3) := by decide +kernel
theorem dX15_way_203 : decode cX15_way 203 = .ok (.istore 10, 2) := by decide +kernel
theorem dX15_way_205 : decode cX15_way 205 = .ok (.aload_n 0, 1) := by decide +kernel
theorem dX15_way_206 : decode cX15_way 206 = .ok (.getfield 55, 3) := by decide +kernel
theorem dX15_way_209 : decode cX15_way 209 = .ok (.bipush 24, 2) := by decide +kernel
theorem dX15_way_211 : decode cX15_way 211 = .ok (.iload 8, 2) := by decide +kernel
theorem dX15_way_213 : decode cX15_way 213 = .ok (.imul, 1) := by decide +kernel
theorem dX15_way_214 : decode cX15_way 214 = .ok (.iload 9, 2) := by decide +kernel
theorem dX15_way_216 : decode cX15_way 216 = .ok (.iadd, 1) := by decide +kernel
theorem dX15_way_217 : decode cX15_way 217 = .ok (.iload 10, 2) := by decide +kernel
theorem dX15_way_219 : decode cX15_way 219 = .ok (.iastore, 1) := by decide +kernel
theorem dX15_way_220 : decode cX15_way 220 = .ok (.iinc 9 1, 3) := by decide +kernel
theorem dX15_way_223 : decode cX15_way 223 = .ok (.goto (-176), 3) := by decide +kernel
theorem dX15_way_226 : decode cX15_way 226 = .ok (.iinc 8 1, 3) := by decide +kernel
theorem dX15_way_229 : decode cX15_way 229 = .ok (.goto (-192), 3) := by decide +kernel
theorem dX15_way_232 : decode cX15_way 232 = .ok (.aload_n 0, 1) := by decide +kernel
theorem dX15_way_233 : decode cX15_way 233 = .ok (.getfield 55, 3) := by decide +kernel
theorem dX15_way_236 : decode cX15_way 236 = .ok (.bipush 24, 2) := by decide +kernel
theorem dX15_way_238 : decode cX15_way 238 = .ok (.iload 5, 2) := by decide +kernel
theorem dX15_way_240 : decode cX15_way 240 = .ok (.iconst 1, 1) := by decide +kernel
theorem dX15_way_241 : decode cX15_way 241 = .ok (.isub, 1) := by decide +kernel
theorem dX15_way_242 : decode cX15_way 242 = .ok (.imul, 1) := by decide +kernel
theorem dX15_way_243 : decode cX15_way 243 = .ok (.iload 6, 2) := by decide +kernel
theorem dX15_way_245 : decode cX15_way 245 = .ok (.iadd, 1) := by decide +kernel
theorem dX15_way_246 : decode cX15_way 246 = .ok (.iconst 1, 1) := by decide +kernel
theorem dX15_way_247 : decode cX15_way 247 = .ok (.isub, 1) := by decide +kernel
theorem dX15_way_248 : decode cX15_way 248 = .ok (.iaload, 1) := by decide +kernel
theorem dX15_way_249 : decode cX15_way 249 = .ok (.ireturn, 1) := by decide +kernel
theorem dX15_distance_0 : decode cX15_distance 0 = .ok (.aload_n 0, 1) := by decide +kernel
theorem dX15_distance_1 : decode cX15_distance 1 = .ok (.aload_n 1, 1) := by decide +kernel
theorem dX15_distance_2 : decode cX15_distance 2 = .ok (.iload_n 2, 1) := by decide +kernel
theorem dX15_distance_3 : decode cX15_distance 3 = .ok (.iload_n 3, 1) := by decide +kernel
theorem dX15_distance_4 : decode cX15_distance 4 = .ok (.iconst 0, 1) := by decide +kernel
theorem dX15_distance_5 : decode cX15_distance 5 = .ok (.invokevirtual 289, 3) := by decide +kernel
theorem dX15_distance_8 : decode cX15_distance 8 = .ok (.bipush 100, 2) := by decide +kernel
theorem dX15_distance_10 : decode cX15_distance 10 = .ok (.idiv, 1) := by decide +kernel
theorem dX15_distance_11 : decode cX15_distance 11 = .ok (.ireturn, 1) := by decide +kernel
theorem dX15_meant_0 : decode cX15_meant 0 = .ok (.aload_n 1, 1) := by decide +kernel
theorem dX15_meant_1 : decode cX15_meant 1 = .ok (.getfield 270, 3) := by decide +kernel
theorem dX15_meant_4 : decode cX15_meant 4 = .ok (.bipush 8, 2) := by decide +kernel
theorem dX15_meant_6 : decode cX15_meant 6 = .ok (.iaload, 1) := by decide +kernel
theorem dX15_meant_7 : decode cX15_meant 7 = .ok (.ifCond .ne 5, 3) := by decide +kernel
theorem dX15_meant_10 : decode cX15_meant 10 = .ok (.iconst (-1), 1) := by decide +kernel
theorem dX15_meant_11 : decode cX15_meant 11 = .ok (.ireturn, 1) := by decide +kernel
theorem dX15_meant_12 : decode cX15_meant 12 = .ok (.iconst (-1), 1) := by decide +kernel
theorem dX15_meant_13 : decode cX15_meant 13 = .ok (.istore_n 3, 1) := by decide +kernel
theorem dX15_meant_14 : decode cX15_meant 14 = .ok (.iconst 0, 1) := by decide +kernel
theorem dX15_meant_15 : decode cX15_meant 15 = .ok (.istore 4, 2) := by decide +kernel
theorem dX15_meant_17 : decode cX15_meant 17 = .ok (.iconst 0, 1) := by decide +kernel
theorem dX15_meant_18 : decode cX15_meant 18 = .ok (.istore 5, 2) := by decide +kernel
theorem dX15_meant_20 : decode cX15_meant 20 = .ok (.iload 5, 2) := by decide +kernel
theorem dX15_meant_22 : decode cX15_meant 22 = .ok (.aload_n 0, 1) := by decide +kernel
theorem dX15_meant_23 : decode cX15_meant 23 = .ok (.getfield 35, 3) := by decide +kernel
theorem dX15_meant_26 : decode cX15_meant 26 = .ok (.getfield 147, 3) := by decide +kernel
theorem dX15_meant_29 : decode cX15_meant 29 = .ok (.if_icmp .ge 62, 3) := by decide +kernel
theorem dX15_meant_32 : decode cX15_meant 32 = .ok (.iload 5, 2) := by decide +kernel
theorem dX15_meant_34 : decode cX15_meant 34 = .ok (.iload_n 2, 1) := by decide +kernel
theorem dX15_meant_35 : decode cX15_meant 35 = .ok (.if_icmp .eq 50, 3) := by decide +kernel
theorem dX15_meant_38 : decode cX15_meant 38 = .ok (.aload_n 1, 1) := by decide +kernel
theorem dX15_meant_39 : decode cX15_meant 39 = .ok (.getfield 293, 3) := by decide +kernel
theorem dX15_meant_42 : decode cX15_meant 42 = .ok (.iload 5, 2) := by decide +kernel
theorem dX15_meant_44 : decode cX15_meant 44 = .ok (.iaload, 1) := by decide +kernel
theorem dX15_meant_45 : decode cX15_meant 45 = .ok (.iconst 1, 1) := by decide +kernel
theorem dX15_meant_46 : decode cX15_meant 46 = .ok (.if_icmp .ne 6, 3) := by decide +kernel
theorem dX15_meant_49 : decode cX15_meant 49 = .ok (.goto 36, 3) := by decide +kernel
theorem dX15_meant_52 : decode cX15_meant 52 = .ok (.aload_n 0, 1) := by decide +kernel
theorem dX15_meant_53 : decode cX15_meant 53 = .ok (.aload_n 1, 1) := by decide +kernel
theorem dX15_meant_54 : decode cX15_meant 54 = .ok (.iload 5, 2) := by decide +kernel
theorem dX15_meant_56 : decode cX15_meant 56 = .ok (.bipush 8, 2) := by decide +kernel
theorem dX15_meant_58 : decode cX15_meant 58 = .ok (.invokevirtual 296, 3) := by decide +kernel
theorem dX15_meant_61 : decode cX15_meant 61 = .ok (.istore 6, 2) := by decide +kernel
theorem dX15_meant_63 : decode cX15_meant 63 = .ok (.iload_n 3, 1) := by decide +kernel
theorem dX15_meant_64 : decode cX15_meant 64 = .ok (.iconst (-1), 1) := by decide +kernel
theorem dX15_meant_65 : decode cX15_meant 65 = .ok (.if_icmp .eq 13, 3) := by decide +kernel
theorem dX15_meant_68 : decode cX15_meant 68 = .ok (.iload 6, 2) := by decide +kernel
theorem dX15_meant_70 : decode cX15_meant 70 = .ok (.iload 4, 2) := by decide +kernel
theorem dX15_meant_72 : decode cX15_meant 72 = .ok (.if_icmp .lt 6, 3) := by decide +kernel
theorem dX15_meant_75 : decode cX15_meant 75 = .ok (.goto 10, 3) := by decide +kernel
theorem dX15_meant_78 : decode cX15_meant 78 = .ok (.iload 5, 2) := by decide +kernel
theorem dX15_meant_80 : decode cX15_meant 80 = .ok (.istore_n 3, 1) := by decide +kernel
theorem dX15_meant_81 : decode cX15_meant 81 = .ok (.iload 6, 2) := by decide +kernel
theorem dX15_meant_83 : decode cX15_meant 83 = .ok (.istore 4, 2) := by decide +kernel
theorem dX15_meant_85 : decode cX15_meant 85 = .ok (.iinc 5 1, 3) := by decide +kernel
theorem dX15_meant_88 : decode cX15_meant 88 = .ok (.goto (-68), 3) := by decide +kernel
theorem dX15_meant_91 : decode cX15_meant 91 = .ok (.iload_n 3, 1) := by decide +kernel
theorem dX15_meant_92 : decode cX15_meant 92 = .ok (.ireturn, 1) := by decide +kernel
theorem dX15_kept_0 : decode cX15_kept 0 = .ok (.iconst 0, 1) := by decide +kernel
theorem dX15_kept_1 : decode cX15_kept 1 = .ok (.istore_n 2, 1) := by decide +kernel
theorem dX15_kept_2 : decode cX15_kept 2 = .ok (.iconst 0, 1) := by decide +kernel
theorem dX15_kept_3 : decode cX15_kept 3 = .ok (.istore_n 3, 1) := by decide +kernel
theorem dX15_kept_4 : decode cX15_kept 4 = .ok (.iload_n 3, 1) := by decide +kernel
theorem dX15_kept_5 : decode cX15_kept 5 = .ok (.aload_n 0, 1) := by decide +kernel
theorem dX15_kept_6 : decode cX15_kept 6 = .ok (.getfield 35, 3) := by decide +kernel
theorem dX15_kept_9 : decode cX15_kept 9 = .ok (.getfield 147, 3) := by decide +kernel
theorem dX15_kept_12 : decode cX15_kept 12 = .ok (.if_icmp .ge 20, 3) := by decide +kernel
theorem dX15_kept_15 : decode cX15_kept 15 = .ok (.iload_n 2, 1) := by decide +kernel
theorem dX15_kept_16 : decode cX15_kept 16 = .ok (.iconst 1, 1) := by decide +kernel
theorem dX15_kept_17 : decode cX15_kept 17 = .ok (.aload_n 1, 1) := by decide +kernel
theorem dX15_kept_18 : decode cX15_kept 18 = .ok (.getfield 293, 3) := by decide +kernel
theorem dX15_kept_21 : decode cX15_kept 21 = .ok (.iload_n 3, 1) := by decide +kernel
theorem dX15_kept_22 : decode cX15_kept 22 = .ok (.iaload, 1) := by decide +kernel
theorem dX15_kept_23 : decode cX15_kept 23 = .ok (.isub, 1) := by decide +kernel
theorem dX15_kept_24 : decode cX15_kept 24 = .ok (.iadd, 1) := by decide +kernel
theorem dX15_kept_25 : decode cX15_kept 25 = .ok (.istore_n 2, 1) := by decide +kernel
theorem dX15_kept_26 : decode cX15_kept 26 = .ok (.iinc 3 1, 3) := by decide +kernel
theorem dX15_kept_29 : decode cX15_kept 29 = .ok (.goto (-25), 3) := by decide +kernel
theorem dX15_kept_32 : decode cX15_kept 32 = .ok (.iload_n 2, 1) := by decide +kernel
theorem dX15_kept_33 : decode cX15_kept 33 = .ok (.ireturn, 1) := by decide +kernel
theorem dX15_near_0 : decode cX15_near 0 = .ok (.iload_n 2, 1) := by decide +kernel
theorem dX15_near_1 : decode cX15_near 1 = .ok (.iload_n 3, 1) := by decide +kernel
theorem dX15_near_2 : decode cX15_near 2 = .ok (.if_icmp .eq 42, 3) := by decide +kernel
theorem dX15_near_5 : decode cX15_near 5 = .ok (.aload_n 0, 1) := by decide +kernel
theorem dX15_near_6 : decode cX15_near 6 = .ok (.aload_n 1, 1) := by decide +kernel
theorem dX15_near_7 : decode cX15_near 7 = .ok (.iload_n 2, 1) := by decide +kernel
theorem dX15_near_8 : decode cX15_near 8 = .ok (.iload_n 3, 1) := by decide +kernel
theorem dX15_near_9 : decode cX15_near 9 = .ok (.invokevirtual 296, 3) := by decide +kernel
theorem dX15_near_12 : decode cX15_near 12 = .ok (.aload_n 0, 1) := by decide +kernel
theorem dX15_near_13 : decode cX15_near 13 = .ok (.getfield 35, 3) := by decide +kernel
theorem dX15_near_16 : decode cX15_near 16 = .ok (.getfield 247, 3) := by decide +kernel
theorem dX15_near_19 : decode cX15_near 19 = .ok (.aload_n 1, 1) := by decide +kernel
theorem dX15_near_20 : decode cX15_near 20 = .ok (.getfield 270, 3) := by decide +kernel
theorem dX15_near_23 : decode cX15_near 23 = .ok (.iload_n 2, 1) := by decide +kernel
theorem dX15_near_24 : decode cX15_near 24 = .ok (.iaload, 1) := by decide +kernel
theorem dX15_near_25 : decode cX15_near 25 = .ok (.aload_n 1, 1) := by decide +kernel
theorem dX15_near_26 : decode cX15_near 26 = .ok (.getfield 270, 3) := by decide +kernel
theorem dX15_near_29 : decode cX15_near 29 = .ok (.iload_n 3, 1) := by decide +kernel
theorem dX15_near_30 : decode cX15_near 30 = .ok (.iaload, 1) := by decide +kernel
theorem dX15_near_31 : decode cX15_near 31 = .ok (.invokestatic 164, 3) := by decide +kernel
theorem dX15_near_34 : decode cX15_near 34 = .ok (.imul, 1) := by decide +kernel
theorem dX15_near_35 : decode cX15_near 35 = .ok (.iconst 4, 1) := by decide +kernel
theorem dX15_near_36 : decode cX15_near 36 = .ok (.idiv, 1) := by decide +kernel
theorem dX15_near_37 : decode cX15_near 37 = .ok (.if_icmp .ge 7, 3) := by decide +kernel
theorem dX15_near_40 : decode cX15_near 40 = .ok (.iconst 1, 1) := by decide +kernel
theorem dX15_near_41 : decode cX15_near 41 = .ok (.goto 4, 3) := by decide +kernel
theorem dX15_near_44 : decode cX15_near 44 = .ok (.iconst 0, 1) := by decide +kernel
theorem dX15_near_45 : decode cX15_near 45 = .ok (.ireturn, 1) := by decide +kernel
theorem dX15_needless_0 : decode cX15_needless 0 = .ok (.aload_n 0, 1) := by decide +kernel
theorem dX15_needless_1 : decode cX15_needless 1 = .ok (.getfield 48, 3) := by decide +kernel
theorem dX15_needless_4 : decode cX15_needless 4 = .ok (.getfield 293, 3) := by decide +kernel
theorem dX15_needless_7 : decode cX15_needless 7 = .ok (.iload_n 1, 1) := by decide +kernel
theorem dX15_needless_8 : decode cX15_needless 8 = .ok (.iaload, 1) := by decide +kernel
theorem dX15_needless_9 : decode cX15_needless 9 = .ok (.iconst 1, 1) := by decide +kernel
theorem dX15_needless_10 : decode cX15_needless 10 = .ok (.if_icmp .ne 5, 3) := by decide +kernel
theorem dX15_needless_13 : decode cX15_needless 13 = .ok (.iconst 0, 1) := by decide +kernel
theorem dX15_needless_14 : decode cX15_needless 14 = .ok (.ireturn, 1) := by decide +kernel
theorem dX15_needless_15 : decode cX15_needless 15 = .ok (.iconst 0, 1) := by decide +kernel
theorem dX15_needless_16 : decode cX15_needless 16 = .ok (.istore_n 2, 1) := by decide +kernel
theorem dX15_needless_17 : decode cX15_needless 17 = .ok (.iload_n 2, 1) := by decide +kernel
theorem dX15_needless_18 : decode cX15_needless 18 = .ok (.iload_n 1, 1) := by decide +kernel
theorem dX15_needless_19 : decode cX15_needless 19 = .ok (.if_icmp .ge 36, 3) := by decide +kernel
theorem dX15_needless_22 : decode cX15_needless 22 = .ok (.aload_n 0, 1) := by decide +kernel
theorem dX15_needless_23 : decode cX15_needless 23 = .ok (.getfield 48, 3) := by decide +kernel
theorem dX15_needless_26 : decode cX15_needless 26 = .ok (.getfield 293, 3) := by decide +kernel
theorem dX15_needless_29 : decode cX15_needless 29 = .ok (.iload_n 2, 1) := by decide +kernel
theorem dX15_needless_30 : decode cX15_needless 30 = .ok (.iaload, 1) := by decide +kernel
theorem dX15_needless_31 : decode cX15_needless 31 = .ok (.ifCond .ne 18, 3) := by decide +kernel
theorem dX15_needless_34 : decode cX15_needless 34 = .ok (.aload_n 0, 1) := by decide +kernel
theorem dX15_needless_35 : decode cX15_needless 35 = .ok (.aload_n 0, 1) := by decide +kernel
theorem dX15_needless_36 : decode cX15_needless 36 = .ok (.getfield 48, 3) := by decide +kernel
theorem dX15_needless_39 : decode cX15_needless 39 = .ok (.iload_n 2, 1) := by decide +kernel
theorem dX15_needless_40 : decode cX15_needless 40 = .ok (.iload_n 1, 1) := by decide +kernel
theorem dX15_needless_41 : decode cX15_needless 41 = .ok (.invokevirtual 299, 3) := by decide +kernel
theorem dX15_needless_44 : decode cX15_needless 44 = .ok (.ifCond .eq 5, 3) := by decide +kernel
theorem dX15_needless_47 : decode cX15_needless 47 = .ok (.iconst 1, 1) := by decide +kernel
theorem dX15_needless_48 : decode cX15_needless 48 = .ok (.ireturn, 1) := by decide +kernel
theorem dX15_needless_49 : decode cX15_needless 49 = .ok (.iinc 2 1, 3) := by decide +kernel
theorem dX15_needless_52 : decode cX15_needless 52 = .ok (.goto (-35), 3) := by decide +kernel
theorem dX15_needless_55 : decode cX15_needless 55 = .ok (.iconst 0, 1) := by decide +kernel
theorem dX15_needless_56 : decode cX15_needless 56 = .ok (.ireturn, 1) := by decide +kernel
theorem dX15_reckon_0 : decode cX15_reckon 0 = .ok (.iload_n 2, 1) := by decide +kernel
theorem dX15_reckon_1 : decode cX15_reckon 1 = .ok (.lookupswitch 168 #[(14, 85), (15, 90), (16, 96), (17, 121), (19, 128), (20, 144), (21, 159), (31, 83), (60, 151)], 83) := by decide +kernel
theorem dX15_reckon_84 : decode cX15_reckon 84 = .ok (.iload_n 3, 1) := by decide +kernel
theorem dX15_reckon_85 : decode cX15_reckon 85 = .ok (.ireturn, 1) := by decide +kernel
theorem dX15_reckon_86 : decode cX15_reckon 86 = .ok (.aload_n 1, 1) := by decide +kernel
theorem dX15_reckon_87 : decode cX15_reckon 87 = .ok (.getfield 303, 3) := by decide +kernel
theorem dX15_reckon_90 : decode cX15_reckon 90 = .ok (.ireturn, 1) := by decide +kernel
theorem dX15_reckon_91 : decode cX15_reckon 91 = .ok (.aload_n 0, 1) := by decide +kernel
theorem dX15_reckon_92 : decode cX15_reckon 92 = .ok (.aload_n 1, 1) := by decide +kernel
theorem dX15_reckon_93 : decode cX15_reckon 93 = .ok (.invokevirtual 306, 3) := by decide +kernel
theorem dX15_reckon_96 : decode cX15_reckon 96 = .ok (.ireturn, 1) := by decide +kernel
theorem dX15_reckon_97 : decode cX15_reckon 97 = .ok (.aload_n 1, 1) := by decide +kernel
theorem dX15_reckon_98 : decode cX15_reckon 98 = .ok (.getfield 270, 3) := by decide +kernel
theorem dX15_reckon_101 : decode cX15_reckon 101 = .ok (.bipush 8, 2) := by decide +kernel
theorem dX15_reckon_103 : decode cX15_reckon 103 = .ok (.iaload, 1) := by decide +kernel
theorem dX15_reckon_104 : decode cX15_reckon 104 = .ok (.ifCond .ne 9, 3) := by decide +kernel
theorem dX15_reckon_107 : decode cX15_reckon 107 = .ok (.sipush 999, 3) := by decide +kernel
theorem dX15_reckon_110 : decode cX15_reckon 110 = .ok (.goto 11, 3) := by decide +kernel
theorem dX15_reckon_113 : decode cX15_reckon 113 = .ok (.aload_n 0, 1) := by decide +kernel
theorem dX15_reckon_114 : decode cX15_reckon 114 = .ok (.aload_n 1, 1) := by decide +kernel
theorem dX15_reckon_115 : decode cX15_reckon 115 = .ok (.iload_n 3, 1) := by decide +kernel
theorem dX15_reckon_116 : decode cX15_reckon 116 = .ok (.bipush 8, 2) := by decide +kernel
theorem dX15_reckon_118 : decode cX15_reckon 118 = .ok (.invokevirtual 296, 3) := by decide +kernel
theorem dX15_reckon_121 : decode cX15_reckon 121 = .ok (.ireturn, 1) := by decide +kernel
theorem dX15_reckon_122 : decode cX15_reckon 122 = .ok (.aload_n 1, 1) := by decide +kernel
theorem dX15_reckon_123 : decode cX15_reckon 123 = .ok (.getfield 270, 3) := by decide +kernel
theorem dX15_reckon_126 : decode cX15_reckon 126 = .ok (.iload_n 3, 1) := by decide +kernel
theorem dX15_reckon_127 : decode cX15_reckon 127 = .ok (.iaload, 1) := by decide +kernel
theorem dX15_reckon_128 : decode cX15_reckon 128 = .ok (.ireturn, 1) := by decide +kernel
theorem dX15_reckon_129 : decode cX15_reckon 129 = .ok (.aload_n 0, 1) := by decide +kernel
theorem dX15_reckon_130 : decode cX15_reckon 130 = .ok (.aload_n 1, 1) := by decide +kernel
theorem dX15_reckon_131 : decode cX15_reckon 131 = .ok (.iconst (-1), 1) := by decide +kernel
theorem dX15_reckon_132 : decode cX15_reckon 132 = .ok (.invokevirtual 310, 3) := by decide +kernel
theorem dX15_reckon_135 : decode cX15_reckon 135 = .ok (.iload_n 3, 1) := by decide +kernel
theorem dX15_reckon_136 : decode cX15_reckon 136 = .ok (.if_icmp .ne 7, 3) := by decide +kernel
theorem dX15_reckon_139 : decode cX15_reckon 139 = .ok (.iconst 1, 1) := by decide +kernel
theorem dX15_reckon_140 : decode cX15_reckon 140 = .ok (.goto 4, 3) := by decide +kernel
theorem dX15_reckon_143 : decode cX15_reckon 143 = .ok (.iconst 0, 1) := by decide +kernel
theorem dX15_reckon_144 : decode cX15_reckon 144 = .ok (.ireturn, 1) := by decide +kernel
theorem dX15_reckon_145 : decode cX15_reckon 145 = .ok (.aload_n 1, 1) := by decide +kernel
theorem dX15_reckon_146 : decode cX15_reckon 146 = .ok (.getfield 293, 3) := by decide +kernel
theorem dX15_reckon_149 : decode cX15_reckon 149 = .ok (.iload_n 3, 1) := by decide +kernel
theorem dX15_reckon_150 : decode cX15_reckon 150 = .ok (.iaload, 1) := by decide +kernel
theorem dX15_reckon_151 : decode cX15_reckon 151 = .ok (.ireturn, 1) := by decide +kernel
theorem dX15_reckon_152 : decode cX15_reckon 152 = .ok (.aload_n 0, 1) := by decide +kernel
theorem dX15_reckon_153 : decode cX15_reckon 153 = .ok (.getfield 42, 3) := by decide +kernel
theorem dX15_reckon_156 : decode cX15_reckon 156 = .ok (.iload_n 3, 1) := by decide +kernel
theorem dX15_reckon_157 : decode cX15_reckon 157 = .ok (.iaload, 1) := by decide +kernel
theorem dX15_reckon_158 : decode cX15_reckon 158 = .ok (.ineg, 1) := by decide +kernel
theorem dX15_reckon_159 : decode cX15_reckon 159 = .ok (.ireturn, 1) := by decide +kernel
theorem dX15_reckon_160 : decode cX15_reckon 160 = .ok (.iconst 1, 1) := by decide +kernel
theorem dX15_reckon_161 : decode cX15_reckon 161 = .ok (.aload_n 0, 1) := by decide +kernel
theorem dX15_reckon_162 : decode cX15_reckon 162 = .ok (.getfield 42, 3) := by decide +kernel
theorem dX15_reckon_165 : decode cX15_reckon 165 = .ok (.iload_n 3, 1) := by decide +kernel
theorem dX15_reckon_166 : decode cX15_reckon 166 = .ok (.iaload, 1) := by decide +kernel
theorem dX15_reckon_167 : decode cX15_reckon 167 = .ok (.isub, 1) := by decide +kernel
theorem dX15_reckon_168 : decode cX15_reckon 168 = .ok (.ireturn, 1) := by decide +kernel
theorem dX15_reckon_169 : decode cX15_reckon 169 = .ok (.iload_n 2, 1) := by decide +kernel
theorem dX15_reckon_170 : decode cX15_reckon 170 = .ok (.aload_n 0, 1) := by decide +kernel
theorem dX15_reckon_171 : decode cX15_reckon 171 = .ok (.getfield 42, 3) := by decide +kernel
theorem dX15_reckon_174 : decode cX15_reckon 174 = .ok (.iload_n 3, 1) := by decide +kernel
theorem dX15_reckon_175 : decode cX15_reckon 175 = .ok (.iaload, 1) := by decide +kernel
theorem dX15_reckon_176 : decode cX15_reckon 176 = .ok (.aload_n 0, 1) := by decide +kernel
theorem dX15_reckon_177 : decode cX15_reckon 177 = .ok (.getfield 42, 3) := by decide +kernel
theorem dX15_reckon_180 : decode cX15_reckon 180 = .ok (.iload 4, 2) := by decide +kernel
theorem dX15_reckon_182 : decode cX15_reckon 182 = .ok (.iaload, 1) := by decide +kernel
theorem dX15_reckon_183 : decode cX15_reckon 183 = .ok (.invokestatic 314, 3) := by decide +kernel
theorem dX15_reckon_186 : decode cX15_reckon 186 = .ok (.ireturn, 1) := by decide +kernel
theorem dX15_joined_0 : decode cX15_joined 0 = .ok (.iload_n 0, 1) := by decide +kernel
theorem dX15_joined_1 : decode cX15_joined 1 = .ok (.tableswitch 207 22 47 #[155, 159, 143, 149, 207, 207, 207, 207, 207, 207, 207, 207, 207, 207, 207, 207, 207, 207, 119, 123, 127, 131, 163, 174, 185, 196], 119) := by decide +kernel
theorem dX15_joined_120 : decode cX15_joined 120 = .ok (.iload_n 1, 1) := by decide +kernel
theorem dX15_joined_121 : decode cX15_joined 121 = .ok (.iload_n 2, 1) := by decide +kernel
theorem dX15_joined_122 : decode cX15_joined 122 = .ok (.iadd, 1) := by decide +kernel
theorem dX15_joined_123 : decode cX15_joined 123 = .ok (.ireturn, 1) := by decide +kernel
theorem dX15_joined_124 : decode cX15_joined 124 = .ok (.iload_n 1, 1) := by decide +kernel
theorem dX15_joined_125 : decode cX15_joined 125 = .ok (.iload_n 2, 1) := by decide +kernel
theorem dX15_joined_126 : decode cX15_joined 126 = .ok (.isub, 1) := by decide +kernel
theorem dX15_joined_127 : decode cX15_joined 127 = .ok (.ireturn, 1) := by decide +kernel
theorem dX15_joined_128 : decode cX15_joined 128 = .ok (.iload_n 1, 1) := by decide +kernel
theorem dX15_joined_129 : decode cX15_joined 129 = .ok (.iload_n 2, 1) := by decide +kernel
theorem dX15_joined_130 : decode cX15_joined 130 = .ok (.imul, 1) := by decide +kernel
theorem dX15_joined_131 : decode cX15_joined 131 = .ok (.ireturn, 1) := by decide +kernel
theorem dX15_joined_132 : decode cX15_joined 132 = .ok (.iload_n 2, 1) := by decide +kernel
theorem dX15_joined_133 : decode cX15_joined 133 = .ok (.ifCond .ne 7, 3) := by decide +kernel
theorem dX15_joined_136 : decode cX15_joined 136 = .ok (.iconst 0, 1) := by decide +kernel
theorem dX15_joined_137 : decode cX15_joined 137 = .ok (.goto 6, 3) := by decide +kernel
theorem dX15_joined_140 : decode cX15_joined 140 = .ok (.iload_n 1, 1) := by decide +kernel
theorem dX15_joined_141 : decode cX15_joined 141 = .ok (.iload_n 2, 1) := by decide +kernel
theorem dX15_joined_142 : decode cX15_joined 142 = .ok (.idiv, 1) := by decide +kernel
theorem dX15_joined_143 : decode cX15_joined 143 = .ok (.ireturn, 1) := by decide +kernel
theorem dX15_joined_144 : decode cX15_joined 144 = .ok (.iload_n 1, 1) := by decide +kernel
theorem dX15_joined_145 : decode cX15_joined 145 = .ok (.iload_n 2, 1) := by decide +kernel
theorem dX15_joined_146 : decode cX15_joined 146 = .ok (.invokestatic 214, 3) := by decide +kernel
theorem dX15_joined_149 : decode cX15_joined 149 = .ok (.ireturn, 1) := by decide +kernel
theorem dX15_joined_150 : decode cX15_joined 150 = .ok (.iload_n 1, 1) := by decide +kernel
theorem dX15_joined_151 : decode cX15_joined 151 = .ok (.iload_n 2, 1) := by decide +kernel
theorem dX15_joined_152 : decode cX15_joined 152 = .ok (.invokestatic 164, 3) := by decide +kernel
theorem dX15_joined_155 : decode cX15_joined 155 = .ok (.ireturn, 1) := by decide +kernel
theorem dX15_joined_156 : decode cX15_joined 156 = .ok (.iload_n 1, 1) := by decide +kernel
theorem dX15_joined_157 : decode cX15_joined 157 = .ok (.iload_n 2, 1) := by decide +kernel
theorem dX15_joined_158 : decode cX15_joined 158 = .ok (.iand, 1) := by decide +kernel
theorem dX15_joined_159 : decode cX15_joined 159 = .ok (.ireturn, 1) := by decide +kernel
theorem dX15_joined_160 : decode cX15_joined 160 = .ok (.iload_n 1, 1) := by decide +kernel
theorem dX15_joined_161 : decode cX15_joined 161 = .ok (.iload_n 2, 1) := by decide +kernel
theorem dX15_joined_162 : decode cX15_joined 162 = .ok (.ior, 1) := by decide +kernel
theorem dX15_joined_163 : decode cX15_joined 163 = .ok (.ireturn, 1) := by decide +kernel
theorem dX15_joined_164 : decode cX15_joined 164 = .ok (.iload_n 1, 1) := by decide +kernel
theorem dX15_joined_165 : decode cX15_joined 165 = .ok (.iload_n 2, 1) := by decide +kernel
theorem dX15_joined_166 : decode cX15_joined 166 = .ok (.if_icmp .ge 7, 3) := by decide +kernel
theorem dX15_joined_169 : decode cX15_joined 169 = .ok (.iconst 1, 1) := by decide +kernel
theorem dX15_joined_170 : decode cX15_joined 170 = .ok (.goto 4, 3) := by decide +kernel
theorem dX15_joined_173 : decode cX15_joined 173 = .ok (.iconst 0, 1) := by decide +kernel
theorem dX15_joined_174 : decode cX15_joined 174 = .ok (.ireturn, 1) := by decide +kernel
theorem dX15_joined_175 : decode cX15_joined 175 = .ok (.iload_n 1, 1) := by decide +kernel
theorem dX15_joined_176 : decode cX15_joined 176 = .ok (.iload_n 2, 1) := by decide +kernel
theorem dX15_joined_177 : decode cX15_joined 177 = .ok (.if_icmp .le 7, 3) := by decide +kernel
theorem dX15_joined_180 : decode cX15_joined 180 = .ok (.iconst 1, 1) := by decide +kernel
theorem dX15_joined_181 : decode cX15_joined 181 = .ok (.goto 4, 3) := by decide +kernel
theorem dX15_joined_184 : decode cX15_joined 184 = .ok (.iconst 0, 1) := by decide +kernel
theorem dX15_joined_185 : decode cX15_joined 185 = .ok (.ireturn, 1) := by decide +kernel
theorem dX15_joined_186 : decode cX15_joined 186 = .ok (.iload_n 1, 1) := by decide +kernel
theorem dX15_joined_187 : decode cX15_joined 187 = .ok (.iload_n 2, 1) := by decide +kernel
theorem dX15_joined_188 : decode cX15_joined 188 = .ok (.if_icmp .ne 7, 3) := by decide +kernel
theorem dX15_joined_191 : decode cX15_joined 191 = .ok (.iconst 1, 1) := by decide +kernel
theorem dX15_joined_192 : decode cX15_joined 192 = .ok (.goto 4, 3) := by decide +kernel
theorem dX15_joined_195 : decode cX15_joined 195 = .ok (.iconst 0, 1) := by decide +kernel
theorem dX15_joined_196 : decode cX15_joined 196 = .ok (.ireturn, 1) := by decide +kernel
theorem dX15_joined_197 : decode cX15_joined 197 = .ok (.iload_n 1, 1) := by decide +kernel
theorem dX15_joined_198 : decode cX15_joined 198 = .ok (.iload_n 2, 1) := by decide +kernel
theorem dX15_joined_199 : decode cX15_joined 199 = .ok (.if_icmp .gt 7, 3) := by decide +kernel
theorem dX15_joined_202 : decode cX15_joined 202 = .ok (.iconst 1, 1) := by decide +kernel
theorem dX15_joined_203 : decode cX15_joined 203 = .ok (.goto 4, 3) := by decide +kernel
theorem dX15_joined_206 : decode cX15_joined 206 = .ok (.iconst 0, 1) := by decide +kernel
theorem dX15_joined_207 : decode cX15_joined 207 = .ok (.ireturn, 1) := by decide +kernel
theorem dX15_joined_208 : decode cX15_joined 208 = .ok (.iload_n 1, 1) := by decide +kernel
theorem dX15_joined_209 : decode cX15_joined 209 = .ok (.iload_n 2, 1) := by decide +kernel
theorem dX15_joined_210 : decode cX15_joined 210 = .ok (.if_icmp .lt 7, 3) := by decide +kernel
theorem dX15_joined_213 : decode cX15_joined 213 = .ok (.iconst 1, 1) := by decide +kernel
theorem dX15_joined_214 : decode cX15_joined 214 = .ok (.goto 4, 3) := by decide +kernel
theorem dX15_joined_217 : decode cX15_joined 217 = .ok (.iconst 0, 1) := by decide +kernel
theorem dX15_joined_218 : decode cX15_joined 218 = .ok (.ireturn, 1) := by decide +kernel
theorem dX15_held_0 : decode cX15_held 0 = .ok (.iload_n 0, 1) := by decide +kernel
theorem dX15_held_1 : decode cX15_held 1 = .ok (.ifCond .ne 7, 3) := by decide +kernel
theorem dX15_held_4 : decode cX15_held 4 = .ok (.iconst 0, 1) := by decide +kernel
theorem dX15_held_5 : decode cX15_held 5 = .ok (.goto 19, 3) := by decide +kernel
theorem dX15_held_8 : decode cX15_held 8 = .ok (.lconst 1, 1) := by decide +kernel
theorem dX15_held_9 : decode cX15_held 9 = .ok (.ldc2_w 317, 3) := by decide +kernel
theorem dX15_held_12 : decode cX15_held 12 = .ok (.iload_n 0, 1) := by decide +kernel
theorem dX15_held_13 : decode cX15_held 13 = .ok (.i2l, 1) := by decide +kernel
theorem dX15_held_14 : decode cX15_held 14 = .ok (.iload_n 1, 1) := by decide +kernel
theorem dX15_held_15 : decode cX15_held 15 = .ok (.i2l, 1) := by decide +kernel
theorem dX15_held_16 : decode cX15_held 16 = .ok (.ladd, 1) := by decide +kernel
theorem dX15_held_17 : decode cX15_held 17 = .ok (.invokestatic 319, 3) := by decide +kernel
theorem dX15_held_20 : decode cX15_held 20 = .ok (.invokestatic 322, 3) := by decide +kernel
theorem dX15_held_23 : decode cX15_held 23 = .ok (.l2i, 1) := by decide +kernel
theorem dX15_held_24 : decode cX15_held 24 = .ok (.ireturn, 1) := by decide +kernel
theorem dX15_isShifted_0 : decode cX15_isShifted 0 = .ok (.iconst 0, 1) := by decide +kernel
theorem dX15_isShifted_1 : decode cX15_isShifted 1 = .ok (.istore 4, 2) := by decide +kernel
theorem dX15_isShifted_3 : decode cX15_isShifted 3 = .ok (.bipush 24, 2) := by decide +kernel
theorem dX15_isShifted_5 : decode cX15_isShifted 5 = .ok (.iload_n 2, 1) := by decide +kernel
theorem dX15_isShifted_6 : decode cX15_isShifted 6 = .ok (.imul, 1) := by decide +kernel
theorem dX15_isShifted_7 : decode cX15_isShifted 7 = .ok (.istore 5, 2) := by decide +kernel
theorem dX15_isShifted_9 : decode cX15_isShifted 9 = .ok (.iload 5, 2) := by decide +kernel
theorem dX15_isShifted_11 : decode cX15_isShifted 11 = .ok (.bipush 24, 2) := by decide +kernel
theorem dX15_isShifted_13 : decode cX15_isShifted 13 = .ok (.iload_n 2, 1) := by decide +kernel
theorem dX15_isShifted_14 : decode cX15_isShifted 14 = .ok (.imul, 1) := by decide +kernel
theorem dX15_isShifted_15 : decode cX15_isShifted 15 = .ok (.aload_n 1, 1) := by decide +kernel
theorem dX15_isShifted_16 : decode cX15_isShifted 16 = .ok (.getfield 270, 3) := by decide +kernel
theorem dX15_isShifted_19 : decode cX15_isShifted 19 = .ok (.iload_n 2, 1) := by decide +kernel
theorem dX15_isShifted_20 : decode cX15_isShifted 20 = .ok (.iaload, 1) := by decide +kernel
theorem dX15_isShifted_21 : decode cX15_isShifted 21 = .ok (.iadd, 1) := by decide +kernel
theorem dX15_isShifted_22 : decode cX15_isShifted 22 = .ok (.if_icmp .ge 53, 3) := by decide +kernel
theorem dX15_isShifted_25 : decode cX15_isShifted 25 = .ok (.aload_n 1, 1) := by decide +kernel
theorem dX15_isShifted_26 : decode cX15_isShifted 26 = .ok (.getfield 271, 3) := by decide +kernel
theorem dX15_isShifted_29 : decode cX15_isShifted 29 = .ok (.iload 5, 2) := by decide +kernel
theorem dX15_isShifted_31 : decode cX15_isShifted 31 = .ok (.iaload, 1) := by decide +kernel
theorem dX15_isShifted_32 : decode cX15_isShifted 32 = .ok (.iload_n 3, 1) := by decide +kernel
theorem dX15_isShifted_33 : decode cX15_isShifted 33 = .ok (.invokestatic 324, 3) := by decide +kernel
theorem dX15_isShifted_36 : decode cX15_isShifted 36 = .ok (.istore 6, 2) := by decide +kernel
theorem dX15_isShifted_38 : decode cX15_isShifted 38 = .ok (.iload 4, 2) := by decide +kernel
theorem dX15_isShifted_40 : decode cX15_isShifted 40 = .ok (.iload 6, 2) := by decide +kernel
theorem dX15_isShifted_42 : decode cX15_isShifted 42 = .ok (.aload_n 1, 1) := by decide +kernel
theorem dX15_isShifted_43 : decode cX15_isShifted 43 = .ok (.getfield 271, 3) := by decide +kernel
theorem dX15_isShifted_46 : decode cX15_isShifted 46 = .ok (.iload 5, 2) := by decide +kernel
theorem dX15_isShifted_48 : decode cX15_isShifted 48 = .ok (.iaload, 1) := by decide +kernel
theorem dX15_isShifted_49 : decode cX15_isShifted 49 = .ok (.if_icmp .eq 7, 3) := by decide +kernel
theorem dX15_isShifted_52 : decode cX15_isShifted 52 = .ok (.iconst 1, 1) := by decide +kernel
theorem dX15_isShifted_53 : decode cX15_isShifted 53 = .ok (.goto 4, 3) := by decide +kernel
theorem dX15_isShifted_56 : decode cX15_isShifted 56 = .ok (.iconst 0, 1) := by decide +kernel
theorem dX15_isShifted_57 : decode cX15_isShifted 57 = .ok (.ior, 1) := by decide +kernel
theorem dX15_isShifted_58 : decode cX15_isShifted 58 = .ok (.istore 4, 2) := by decide +kernel
theorem dX15_isShifted_60 : decode cX15_isShifted 60 = .ok (.aload_n 1, 1) := by decide +kernel
theorem dX15_isShifted_61 : decode cX15_isShifted 61 = .ok (.getfield 271, 3) := by decide +kernel
theorem dX15_isShifted_64 : decode cX15_isShifted 64 = .ok (.iload 5, 2) := by decide +kernel
theorem dX15_isShifted_66 : decode cX15_isShifted 66 = .ok (.iload 6, 2) := by decide +kernel
theorem dX15_isShifted_68 : decode cX15_isShifted 68 = .ok (.iastore, 1) := by decide +kernel
theorem dX15_isShifted_69 : decode cX15_isShifted 69 = .ok (.iinc 5 1, 3) := by decide +kernel
theorem dX15_isShifted_72 : decode cX15_isShifted 72 = .ok (.goto (-63), 3) := by decide +kernel
theorem dX15_isShifted_75 : decode cX15_isShifted 75 = .ok (.iload 4, 2) := by decide +kernel
theorem dX15_isShifted_77 : decode cX15_isShifted 77 = .ok (.ireturn, 1) := by decide +kernel
theorem dX15_carryOut_0 : decode cX15_carryOut 0 = .ok (.aload_n 0, 1) := by decide +kernel
theorem dX15_carryOut_1 : decode cX15_carryOut 1 = .ok (.getfield 35, 3) := by decide +kernel
theorem dX15_carryOut_4 : decode cX15_carryOut 4 = .ok (.getfield 226, 3) := by decide +kernel
theorem dX15_carryOut_7 : decode cX15_carryOut 7 = .ok (.iload_n 2, 1) := by decide +kernel
theorem dX15_carryOut_8 : decode cX15_carryOut 8 = .ok (.iaload, 1) := by decide +kernel
theorem dX15_carryOut_9 : decode cX15_carryOut 9 = .ok (.istore_n 3, 1) := by decide +kernel
theorem dX15_carryOut_10 : decode cX15_carryOut 10 = .ok (.iload_n 3, 1) := by decide +kernel
theorem dX15_carryOut_11 : decode cX15_carryOut 11 = .ok (.aload_n 0, 1) := by decide +kernel
theorem dX15_carryOut_12 : decode cX15_carryOut 12 = .ok (.getfield 35, 3) := by decide +kernel
theorem dX15_carryOut_15 : decode cX15_carryOut 15 = .ok (.getfield 239, 3) := by decide +kernel
theorem dX15_carryOut_18 : decode cX15_carryOut 18 = .ok (.iload_n 2, 1) := by decide +kernel
theorem dX15_carryOut_19 : decode cX15_carryOut 19 = .ok (.iaload, 1) := by decide +kernel
theorem dX15_carryOut_20 : decode cX15_carryOut 20 = .ok (.if_icmp .ge 47, 3) := by decide +kernel
theorem dX15_carryOut_23 : decode cX15_carryOut 23 = .ok (.aload_n 0, 1) := by decide +kernel
theorem dX15_carryOut_24 : decode cX15_carryOut 24 = .ok (.getfield 42, 3) := by decide +kernel
theorem dX15_carryOut_27 : decode cX15_carryOut 27 = .ok (.iload_n 3, 1) := by decide +kernel
theorem dX15_carryOut_28 : decode cX15_carryOut 28 = .ok (.aload_n 0, 1) := by decide +kernel
theorem dX15_carryOut_29 : decode cX15_carryOut 29 = .ok (.aload_n 1, 1) := by decide +kernel
theorem dX15_carryOut_30 : decode cX15_carryOut 30 = .ok (.aload_n 0, 1) := by decide +kernel
theorem dX15_carryOut_31 : decode cX15_carryOut 31 = .ok (.getfield 35, 3) := by decide +kernel
theorem dX15_carryOut_34 : decode cX15_carryOut 34 = .ok (.getfield 138, 3) := by decide +kernel
theorem dX15_carryOut_37 : decode cX15_carryOut 37 = .ok (.iload_n 3, 1) := by decide +kernel
theorem dX15_carryOut_38 : decode cX15_carryOut 38 = .ok (.iaload, 1) := by decide +kernel
theorem dX15_carryOut_39 : decode cX15_carryOut 39 = .ok (.aload_n 0, 1) := by decide +kernel
theorem dX15_carryOut_40 : decode cX15_carryOut 40 = .ok (.getfield 35, 3) := by decide +kernel
theorem dX15_carryOut_43 : decode cX15_carryOut 43 = .ok (.getfield 141, 3) := by decide +kernel
theorem dX15_carryOut_46 : decode cX15_carryOut 46 = .ok (.iload_n 3, 1) := by decide +kernel
theorem dX15_carryOut_47 : decode cX15_carryOut 47 = .ok (.iaload, 1) := by decide +kernel
theorem dX15_carryOut_48 : decode cX15_carryOut 48 = .ok (.aload_n 0, 1) := by decide +kernel
theorem dX15_carryOut_49 : decode cX15_carryOut 49 = .ok (.getfield 35, 3) := by decide +kernel
theorem dX15_carryOut_52 : decode cX15_carryOut 52 = .ok (.getfield 144, 3) := by decide +kernel
theorem dX15_carryOut_55 : decode cX15_carryOut 55 = .ok (.iload_n 3, 1) := by decide +kernel
theorem dX15_carryOut_56 : decode cX15_carryOut 56 = .ok (.iaload, 1) := by decide +kernel
theorem dX15_carryOut_57 : decode cX15_carryOut 57 = .ok (.invokevirtual 327, 3) := by decide +kernel
theorem dX15_carryOut_60 : decode cX15_carryOut 60 = .ok (.iastore, 1) := by decide +kernel
theorem dX15_carryOut_61 : decode cX15_carryOut 61 = .ok (.iinc 3 1, 3) := by decide +kernel
theorem dX15_carryOut_64 : decode cX15_carryOut 64 = .ok (.goto (-54), 3) := by decide +kernel
theorem dX15_carryOut_67 : decode cX15_carryOut 67 = .ok (.aload_n 0, 1) := by decide +kernel
theorem dX15_carryOut_68 : decode cX15_carryOut 68 = .ok (.getfield 35, 3) := by decide +kernel
theorem dX15_carryOut_71 : decode cX15_carryOut 71 = .ok (.getfield 237, 3) := by decide +kernel
theorem dX15_carryOut_74 : decode cX15_carryOut 74 = .ok (.iload_n 2, 1) := by decide +kernel
theorem dX15_carryOut_75 : decode cX15_carryOut 75 = .ok (.iaload, 1) := by decide +kernel
theorem dX15_carryOut_76 : decode cX15_carryOut 76 = .ok (.iconst (-1), 1) := by decide +kernel
theorem dX15_carryOut_77 : decode cX15_carryOut 77 = .ok (.if_icmp .eq 22, 3) := by decide +kernel
theorem dX15_carryOut_80 : decode cX15_carryOut 80 = .ok (.aload_n 0, 1) := by decide +kernel
theorem dX15_carryOut_81 : decode cX15_carryOut 81 = .ok (.getfield 42, 3) := by decide +kernel
theorem dX15_carryOut_84 : decode cX15_carryOut 84 = .ok (.aload_n 0, 1) := by decide +kernel
theorem dX15_carryOut_85 : decode cX15_carryOut 85 = .ok (.getfield 35, 3) := by decide +kernel
theorem dX15_carryOut_88 : decode cX15_carryOut 88 = .ok (.getfield 237, 3) := by decide +kernel
theorem dX15_carryOut_91 : decode cX15_carryOut 91 = .ok (.iload_n 2, 1) := by decide +kernel
theorem dX15_carryOut_92 : decode cX15_carryOut 92 = .ok (.iaload, 1) := by decide +kernel
theorem dX15_carryOut_93 : decode cX15_carryOut 93 = .ok (.iaload, 1) := by decide +kernel
theorem dX15_carryOut_94 : decode cX15_carryOut 94 = .ok (.ifCond .ne 5, 3) := by decide +kernel
theorem dX15_carryOut_97 : decode cX15_carryOut 97 = .ok (.iconst 0, 1) := by decide +kernel
theorem dX15_carryOut_98 : decode cX15_carryOut 98 = .ok (.ireturn, 1) := by decide +kernel
theorem dX15_carryOut_99 : decode cX15_carryOut 99 = .ok (.aload_n 0, 1) := by decide +kernel
theorem dX15_carryOut_100 : decode cX15_carryOut 100 = .ok (.getfield 35, 3) := by decide +kernel
theorem dX15_carryOut_103 : decode cX15_carryOut 103 = .ok (.getfield 232, 3) := by decide +kernel
theorem dX15_carryOut_106 : decode cX15_carryOut 106 = .ok (.iload_n 2, 1) := by decide +kernel
theorem dX15_carryOut_107 : decode cX15_carryOut 107 = .ok (.iaload, 1) := by decide +kernel
theorem dX15_carryOut_108 : decode cX15_carryOut 108 = .ok (.istore_n 3, 1) := by decide +kernel
theorem dX15_carryOut_109 : decode cX15_carryOut 109 = .ok (.aload_n 0, 1) := by decide +kernel
theorem dX15_carryOut_110 : decode cX15_carryOut 110 = .ok (.getfield 35, 3) := by decide +kernel
theorem dX15_carryOut_113 : decode cX15_carryOut 113 = .ok (.getfield 229, 3) := by decide +kernel
theorem dX15_carryOut_116 : decode cX15_carryOut 116 = .ok (.iload_n 2, 1) := by decide +kernel
theorem dX15_carryOut_117 : decode cX15_carryOut 117 = .ok (.iaload, 1) := by decide +kernel
theorem dX15_carryOut_118 : decode cX15_carryOut 118 = .ok (.iconst 2, 1) := by decide +kernel
theorem dX15_carryOut_119 : decode cX15_carryOut 119 = .ok (.if_icmp .ne 24, 3) := by decide +kernel
theorem dX15_carryOut_122 : decode cX15_carryOut 122 = .ok (.aload_n 0, 1) := by decide +kernel
theorem dX15_carryOut_123 : decode cX15_carryOut 123 = .ok (.aload_n 1, 1) := by decide +kernel
theorem dX15_carryOut_124 : decode cX15_carryOut 124 = .ok (.iload_n 3, 1) := by decide +kernel
theorem dX15_carryOut_125 : decode cX15_carryOut 125 = .ok (.aload_n 0, 1) := by decide +kernel
theorem dX15_carryOut_126 : decode cX15_carryOut 126 = .ok (.getfield 42, 3) := by decide +kernel
theorem dX15_carryOut_129 : decode cX15_carryOut 129 = .ok (.aload_n 0, 1) := by decide +kernel
theorem dX15_carryOut_130 : decode cX15_carryOut 130 = .ok (.getfield 35, 3) := by decide +kernel
theorem dX15_carryOut_133 : decode cX15_carryOut 133 = .ok (.getfield 235, 3) := by decide +kernel
theorem dX15_carryOut_136 : decode cX15_carryOut 136 = .ok (.iload_n 2, 1) := by decide +kernel
theorem dX15_carryOut_137 : decode cX15_carryOut 137 = .ok (.iaload, 1) := by decide +kernel
theorem dX15_carryOut_138 : decode cX15_carryOut 138 = .ok (.iaload, 1) := by decide +kernel
theorem dX15_carryOut_139 : decode cX15_carryOut 139 = .ok (.invokevirtual 331, 3) := by decide +kernel
theorem dX15_carryOut_142 : decode cX15_carryOut 142 = .ok (.ireturn, 1) := by decide +kernel
theorem dX15_carryOut_143 : decode cX15_carryOut 143 = .ok (.aload_n 0, 1) := by decide +kernel
theorem dX15_carryOut_144 : decode cX15_carryOut 144 = .ok (.getfield 35, 3) := by decide +kernel
theorem dX15_carryOut_147 : decode cX15_carryOut 147 = .ok (.getfield 229, 3) := by decide +kernel
theorem dX15_carryOut_150 : decode cX15_carryOut 150 = .ok (.iload_n 2, 1) := by decide +kernel
theorem dX15_carryOut_151 : decode cX15_carryOut 151 = .ok (.iaload, 1) := by decide +kernel
theorem dX15_carryOut_152 : decode cX15_carryOut 152 = .ok (.ifCond .ne 7, 3) := by decide +kernel
theorem dX15_carryOut_155 : decode cX15_carryOut 155 = .ok (.iconst 1, 1) := by decide +kernel
theorem dX15_carryOut_156 : decode cX15_carryOut 156 = .ok (.goto 4, 3) := by decide +kernel
theorem dX15_carryOut_159 : decode cX15_carryOut 159 = .ok (.iconst 0, 1) := by decide +kernel
theorem dX15_carryOut_160 : decode cX15_carryOut 160 = .ok (.istore 4, 2) := by decide +kernel
theorem dX15_carryOut_162 : decode cX15_carryOut 162 = .ok (.aload_n 1, 1) := by decide +kernel
theorem dX15_carryOut_163 : decode cX15_carryOut 163 = .ok (.getfield 293, 3) := by decide +kernel
theorem dX15_carryOut_166 : decode cX15_carryOut 166 = .ok (.iload_n 3, 1) := by decide +kernel
theorem dX15_carryOut_167 : decode cX15_carryOut 167 = .ok (.iaload, 1) := by decide +kernel
theorem dX15_carryOut_168 : decode cX15_carryOut 168 = .ok (.iload 4, 2) := by decide +kernel
theorem dX15_carryOut_170 : decode cX15_carryOut 170 = .ok (.if_icmp .eq 7, 3) := by decide +kernel
theorem dX15_carryOut_173 : decode cX15_carryOut 173 = .ok (.iconst 1, 1) := by decide +kernel
theorem dX15_carryOut_174 : decode cX15_carryOut 174 = .ok (.goto 4, 3) := by decide +kernel
theorem dX15_carryOut_177 : decode cX15_carryOut 177 = .ok (.iconst 0, 1) := by decide +kernel
theorem dX15_carryOut_178 : decode cX15_carryOut 178 = .ok (.istore 5, 2) := by decide +kernel
theorem dX15_carryOut_180 : decode cX15_carryOut 180 = .ok (.aload_n 1, 1) := by decide +kernel
theorem dX15_carryOut_181 : decode cX15_carryOut 181 = .ok (.getfield 293, 3) := by decide +kernel
theorem dX15_carryOut_184 : decode cX15_carryOut 184 = .ok (.iload_n 3, 1) := by decide +kernel
theorem dX15_carryOut_185 : decode cX15_carryOut 185 = .ok (.iload 4, 2) := by decide +kernel
theorem dX15_carryOut_187 : decode cX15_carryOut 187 = .ok (.iastore, 1) := by decide +kernel
theorem dX15_carryOut_188 : decode cX15_carryOut 188 = .ok (.iload 5, 2) := by decide +kernel
theorem dX15_carryOut_190 : decode cX15_carryOut 190 = .ok (.ireturn, 1) := by decide +kernel
theorem dX15_lesson_0 : decode cX15_lesson 0 = .ok (.iconst 0, 1) := by decide +kernel
theorem dX15_lesson_1 : decode cX15_lesson 1 = .ok (.istore_n 2, 1) := by decide +kernel
theorem dX15_lesson_2 : decode cX15_lesson 2 = .ok (.iconst 0, 1) := by decide +kernel
theorem dX15_lesson_3 : decode cX15_lesson 3 = .ok (.istore_n 3, 1) := by decide +kernel
theorem dX15_lesson_4 : decode cX15_lesson 4 = .ok (.iload_n 3, 1) := by decide +kernel
theorem dX15_lesson_5 : decode cX15_lesson 5 = .ok (.aload_n 0, 1) := by decide +kernel
theorem dX15_lesson_6 : decode cX15_lesson 6 = .ok (.getfield 35, 3) := by decide +kernel
theorem dX15_lesson_9 : decode cX15_lesson 9 = .ok (.getfield 223, 3) := by decide +kernel
theorem dX15_lesson_12 : decode cX15_lesson 12 = .ok (.if_icmp .ge 26, 3) := by decide +kernel
theorem dX15_lesson_15 : decode cX15_lesson 15 = .ok (.iload_n 2, 1) := by decide +kernel
theorem dX15_lesson_16 : decode cX15_lesson 16 = .ok (.aload_n 0, 1) := by decide +kernel
theorem dX15_lesson_17 : decode cX15_lesson 17 = .ok (.aload_n 1, 1) := by decide +kernel
theorem dX15_lesson_18 : decode cX15_lesson 18 = .ok (.iload_n 3, 1) := by decide +kernel
theorem dX15_lesson_19 : decode cX15_lesson 19 = .ok (.invokevirtual 334, 3) := by decide +kernel
theorem dX15_lesson_22 : decode cX15_lesson 22 = .ok (.ifCond .eq 7, 3) := by decide +kernel
theorem dX15_lesson_25 : decode cX15_lesson 25 = .ok (.iconst 1, 1) := by decide +kernel
theorem dX15_lesson_26 : decode cX15_lesson 26 = .ok (.goto 4, 3) := by decide +kernel
theorem dX15_lesson_29 : decode cX15_lesson 29 = .ok (.iconst 0, 1) := by decide +kernel
theorem dX15_lesson_30 : decode cX15_lesson 30 = .ok (.iadd, 1) := by decide +kernel
theorem dX15_lesson_31 : decode cX15_lesson 31 = .ok (.istore_n 2, 1) := by decide +kernel
theorem dX15_lesson_32 : decode cX15_lesson 32 = .ok (.iinc 3 1, 3) := by decide +kernel
theorem dX15_lesson_35 : decode cX15_lesson 35 = .ok (.goto (-31), 3) := by decide +kernel
theorem dX15_lesson_38 : decode cX15_lesson 38 = .ok (.aload_n 1, 1) := by decide +kernel
theorem dX15_lesson_39 : decode cX15_lesson 39 = .ok (.dup, 1) := by decide +kernel
theorem dX15_lesson_40 : decode cX15_lesson 40 = .ok (.getfield 338, 3) := by decide +kernel
theorem dX15_lesson_43 : decode cX15_lesson 43 = .ok (.iload_n 2, 1) := by decide +kernel
theorem dX15_lesson_44 : decode cX15_lesson 44 = .ok (.iadd, 1) := by decide +kernel
theorem dX15_lesson_45 : decode cX15_lesson 45 = .ok (.putfield 338, 3) := by decide +kernel
theorem dX15_lesson_48 : decode cX15_lesson 48 = .ok (.aload_n 1, 1) := by decide +kernel
theorem dX15_lesson_49 : decode cX15_lesson 49 = .ok (.dup, 1) := by decide +kernel
theorem dX15_lesson_50 : decode cX15_lesson 50 = .ok (.getfield 303, 3) := by decide +kernel
theorem dX15_lesson_53 : decode cX15_lesson 53 = .ok (.iconst 1, 1) := by decide +kernel
theorem dX15_lesson_54 : decode cX15_lesson 54 = .ok (.iadd, 1) := by decide +kernel
theorem dX15_lesson_55 : decode cX15_lesson 55 = .ok (.putfield 303, 3) := by decide +kernel
theorem dX15_lesson_58 : decode cX15_lesson 58 = .ok (.iload_n 2, 1) := by decide +kernel
theorem dX15_lesson_59 : decode cX15_lesson 59 = .ok (.ireturn, 1) := by decide +kernel
theorem dX15_words_0 : decode cX15_words 0 = .ok (.aload_n 0, 1) := by decide +kernel
theorem dX15_words_1 : decode cX15_words 1 = .ok (.aload_n 0, 1) := by decide +kernel
theorem dX15_words_2 : decode cX15_words 2 = .ok (.getfield 35, 3) := by decide +kernel
theorem dX15_words_5 : decode cX15_words 5 = .ok (.getfield 147, 3) := by decide +kernel
theorem dX15_words_8 : decode cX15_words 8 = .ok (.invokevirtual 267, 3) := by decide +kernel
theorem dX15_words_11 : decode cX15_words 11 = .ok (.ireturn, 1) := by decide +kernel
theorem dX15_keptWords_0 : decode cX15_keptWords 0 = .ok (.aload_n 0, 1) := by decide +kernel
theorem dX15_keptWords_1 : decode cX15_keptWords 1 = .ok (.aload_n 0, 1) := by decide +kernel
theorem dX15_keptWords_2 : decode cX15_keptWords 2 = .ok (.aload_n 0, 1) := by decide +kernel
theorem dX15_keptWords_3 : decode cX15_keptWords 3 = .ok (.getfield 48, 3) := by decide +kernel
theorem dX15_keptWords_6 : decode cX15_keptWords 6 = .ok (.invokevirtual 306, 3) := by decide +kernel
theorem dX15_keptWords_9 : decode cX15_keptWords 9 = .ok (.invokevirtual 267, 3) := by decide +kernel
theorem dX15_keptWords_12 : decode cX15_keptWords 12 = .ok (.ireturn, 1) := by decide +kernel
theorem dX15_rules_0 : decode cX15_rules 0 = .ok (.aload_n 0, 1) := by decide +kernel
theorem dX15_rules_1 : decode cX15_rules 1 = .ok (.aload_n 0, 1) := by decide +kernel
theorem dX15_rules_2 : decode cX15_rules 2 = .ok (.getfield 35, 3) := by decide +kernel
theorem dX15_rules_5 : decode cX15_rules 5 = .ok (.getfield 223, 3) := by decide +kernel
theorem dX15_rules_8 : decode cX15_rules 8 = .ok (.invokevirtual 267, 3) := by decide +kernel
theorem dX15_rules_11 : decode cX15_rules 11 = .ok (.ireturn, 1) := by decide +kernel
theorem dX15_lessons_0 : decode cX15_lessons 0 = .ok (.aload_n 0, 1) := by decide +kernel
theorem dX15_lessons_1 : decode cX15_lessons 1 = .ok (.aload_n 0, 1) := by decide +kernel
theorem dX15_lessons_2 : decode cX15_lessons 2 = .ok (.getfield 48, 3) := by decide +kernel
theorem dX15_lessons_5 : decode cX15_lessons 5 = .ok (.getfield 303, 3) := by decide +kernel
theorem dX15_lessons_8 : decode cX15_lessons 8 = .ok (.invokevirtual 267, 3) := by decide +kernel
theorem dX15_lessons_11 : decode cX15_lessons 11 = .ok (.ireturn, 1) := by decide +kernel
theorem dX15_rulesCarriedOut_0 : decode cX15_rulesCarriedOut 0 = .ok (.aload_n 0, 1) := by decide +kernel
theorem dX15_rulesCarriedOut_1 : decode cX15_rulesCarriedOut 1 = .ok (.aload_n 0, 1) := by decide +kernel
theorem dX15_rulesCarriedOut_2 : decode cX15_rulesCarriedOut 2 = .ok (.getfield 48, 3) := by decide +kernel
theorem dX15_rulesCarriedOut_5 : decode cX15_rulesCarriedOut 5 = .ok (.getfield 338, 3) := by decide +kernel
theorem dX15_rulesCarriedOut_8 : decode cX15_rulesCarriedOut 8 = .ok (.invokevirtual 267, 3) := by decide +kernel
theorem dX15_rulesCarriedOut_11 : decode cX15_rulesCarriedOut 11 = .ok (.ireturn, 1) := by decide +kernel
theorem dX15_heardBeats_0 : decode cX15_heardBeats 0 = .ok (.aload_n 0, 1) := by decide +kernel
theorem dX15_heardBeats_1 : decode cX15_heardBeats 1 = .ok (.aload_n 0, 1) := by decide +kernel
theorem dX15_heardBeats_2 : decode cX15_heardBeats 2 = .ok (.getfield 48, 3) := by decide +kernel
theorem dX15_heardBeats_5 : decode cX15_heardBeats 5 = .ok (.getfield 270, 3) := by decide +kernel
theorem dX15_heardBeats_8 : decode cX15_heardBeats 8 = .ok (.bipush 8, 2) := by decide +kernel
theorem dX15_heardBeats_10 : decode cX15_heardBeats 10 = .ok (.iaload, 1) := by decide +kernel
theorem dX15_heardBeats_11 : decode cX15_heardBeats 11 = .ok (.invokevirtual 267, 3) := by decide +kernel
theorem dX15_heardBeats_14 : decode cX15_heardBeats 14 = .ok (.ireturn, 1) := by decide +kernel
theorem dX15_isTold_0 : decode cX15_isTold 0 = .ok (.iload_n 1, 1) := by decide +kernel
theorem dX15_isTold_1 : decode cX15_isTold 1 = .ok (.iconst 0, 1) := by decide +kernel
theorem dX15_isTold_2 : decode cX15_isTold 2 = .ok (.aload_n 0, 1) := by decide +kernel
theorem dX15_isTold_3 : decode cX15_isTold 3 = .ok (.getfield 35, 3) := by decide +kernel
theorem dX15_isTold_6 : decode cX15_isTold 6 = .ok (.getfield 147, 3) := by decide +kernel
theorem dX15_isTold_9 : decode cX15_isTold 9 = .ok (.iconst 1, 1) := by decide +kernel
theorem dX15_isTold_10 : decode cX15_isTold 10 = .ok (.isub, 1) := by decide +kernel
theorem dX15_isTold_11 : decode cX15_isTold 11 = .ok (.invokestatic 65, 3) := by decide +kernel
theorem dX15_isTold_14 : decode cX15_isTold 14 = .ok (.ireturn, 1) := by decide +kernel
theorem dX15_isBeat_0 : decode cX15_isBeat 0 = .ok (.aload_n 0, 1) := by decide +kernel
theorem dX15_isBeat_1 : decode cX15_isBeat 1 = .ok (.iload_n 1, 1) := by decide +kernel
theorem dX15_isBeat_2 : decode cX15_isBeat 2 = .ok (.invokevirtual 341, 3) := by decide +kernel
theorem dX15_isBeat_5 : decode cX15_isBeat 5 = .ok (.ifCond .eq 26, 3) := by decide +kernel
theorem dX15_isBeat_8 : decode cX15_isBeat 8 = .ok (.iload_n 2, 1) := by decide +kernel
theorem dX15_isBeat_9 : decode cX15_isBeat 9 = .ok (.iconst 0, 1) := by decide +kernel
theorem dX15_isBeat_10 : decode cX15_isBeat 10 = .ok (.aload_n 0, 1) := by decide +kernel
theorem dX15_isBeat_11 : decode cX15_isBeat 11 = .ok (.getfield 48, 3) := by decide +kernel
theorem dX15_isBeat_14 : decode cX15_isBeat 14 = .ok (.getfield 270, 3) := by decide +kernel
theorem dX15_isBeat_17 : decode cX15_isBeat 17 = .ok (.iload_n 1, 1) := by decide +kernel
theorem dX15_isBeat_18 : decode cX15_isBeat 18 = .ok (.iaload, 1) := by decide +kernel
theorem dX15_isBeat_19 : decode cX15_isBeat 19 = .ok (.iconst 1, 1) := by decide +kernel
theorem dX15_isBeat_20 : decode cX15_isBeat 20 = .ok (.isub, 1) := by decide +kernel
theorem dX15_isBeat_21 : decode cX15_isBeat 21 = .ok (.invokestatic 65, 3) := by decide +kernel
theorem dX15_isBeat_24 : decode cX15_isBeat 24 = .ok (.ifCond .eq 7, 3) := by decide +kernel
theorem dX15_isBeat_27 : decode cX15_isBeat 27 = .ok (.iconst 1, 1) := by decide +kernel
theorem dX15_isBeat_28 : decode cX15_isBeat 28 = .ok (.goto 4, 3) := by decide +kernel
theorem dX15_isBeat_31 : decode cX15_isBeat 31 = .ok (.iconst 0, 1) := by decide +kernel
theorem dX15_isBeat_32 : decode cX15_isBeat 32 = .ok (.ireturn, 1) := by decide +kernel
theorem dX15_lengthOf_0 : decode cX15_lengthOf 0 = .ok (.aload_n 0, 1) := by decide +kernel
theorem dX15_lengthOf_1 : decode cX15_lengthOf 1 = .ok (.iconst 0, 1) := by decide +kernel
theorem dX15_lengthOf_2 : decode cX15_lengthOf 2 = .ok (.putfield 62, 3) := by decide +kernel
theorem dX15_lengthOf_5 : decode cX15_lengthOf 5 = .ok (.aload_n 0, 1) := by decide +kernel
theorem dX15_lengthOf_6 : decode cX15_lengthOf 6 = .ok (.iload_n 1, 1) := by decide +kernel
theorem dX15_lengthOf_7 : decode cX15_lengthOf 7 = .ok (.invokevirtual 341, 3) := by decide +kernel
theorem dX15_lengthOf_10 : decode cX15_lengthOf 10 = .ok (.ifCond .eq 15, 3) := by decide +kernel
theorem dX15_lengthOf_13 : decode cX15_lengthOf 13 = .ok (.aload_n 0, 1) := by decide +kernel
theorem dX15_lengthOf_14 : decode cX15_lengthOf 14 = .ok (.getfield 48, 3) := by decide +kernel
theorem dX15_lengthOf_17 : decode cX15_lengthOf 17 = .ok (.getfield 270, 3) := by decide +kernel
theorem dX15_lengthOf_20 : decode cX15_lengthOf 20 = .ok (.iload_n 1, 1) := by decide +kernel
theorem dX15_lengthOf_21 : decode cX15_lengthOf 21 = .ok (.iaload, 1) := by decide +kernel
theorem dX15_lengthOf_22 : decode cX15_lengthOf 22 = .ok (.goto 8, 3) := by decide +kernel
theorem dX15_lengthOf_25 : decode cX15_lengthOf 25 = .ok (.aload_n 0, 1) := by decide +kernel
theorem dX15_lengthOf_26 : decode cX15_lengthOf 26 = .ok (.iconst 1, 1) := by decide +kernel
theorem dX15_lengthOf_27 : decode cX15_lengthOf 27 = .ok (.invokevirtual 253, 3) := by decide +kernel
theorem dX15_lengthOf_30 : decode cX15_lengthOf 30 = .ok (.ireturn, 1) := by decide +kernel
theorem dX15_pitchAt_0 : decode cX15_pitchAt 0 = .ok (.aload_n 0, 1) := by decide +kernel
theorem dX15_pitchAt_1 : decode cX15_pitchAt 1 = .ok (.iconst 0, 1) := by decide +kernel
theorem dX15_pitchAt_2 : decode cX15_pitchAt 2 = .ok (.putfield 62, 3) := by decide +kernel
theorem dX15_pitchAt_5 : decode cX15_pitchAt 5 = .ok (.aload_n 0, 1) := by decide +kernel
theorem dX15_pitchAt_6 : decode cX15_pitchAt 6 = .ok (.iload_n 1, 1) := by decide +kernel
theorem dX15_pitchAt_7 : decode cX15_pitchAt 7 = .ok (.iload_n 2, 1) := by decide +kernel
theorem dX15_pitchAt_8 : decode cX15_pitchAt 8 = .ok (.invokevirtual 344, 3) := by decide +kernel
theorem dX15_pitchAt_11 : decode cX15_pitchAt 11 = .ok (.ifCond .eq 20, 3) := by decide +kernel
theorem dX15_pitchAt_14 : decode cX15_pitchAt 14 = .ok (.aload_n 0, 1) := by decide +kernel
theorem dX15_pitchAt_15 : decode cX15_pitchAt 15 = .ok (.getfield 48, 3) := by decide +kernel
theorem dX15_pitchAt_18 : decode cX15_pitchAt 18 = .ok (.getfield 271, 3) := by decide +kernel
theorem dX15_pitchAt_21 : decode cX15_pitchAt 21 = .ok (.bipush 24, 2) := by decide +kernel
theorem dX15_pitchAt_23 : decode cX15_pitchAt 23 = .ok (.iload_n 1, 1) := by decide +kernel
theorem dX15_pitchAt_24 : decode cX15_pitchAt 24 = .ok (.imul, 1) := by decide +kernel
theorem dX15_pitchAt_25 : decode cX15_pitchAt 25 = .ok (.iload_n 2, 1) := by decide +kernel
theorem dX15_pitchAt_26 : decode cX15_pitchAt 26 = .ok (.iadd, 1) := by decide +kernel
theorem dX15_pitchAt_27 : decode cX15_pitchAt 27 = .ok (.iaload, 1) := by decide +kernel
theorem dX15_pitchAt_28 : decode cX15_pitchAt 28 = .ok (.goto 8, 3) := by decide +kernel
theorem dX15_pitchAt_31 : decode cX15_pitchAt 31 = .ok (.aload_n 0, 1) := by decide +kernel
theorem dX15_pitchAt_32 : decode cX15_pitchAt 32 = .ok (.iconst 1, 1) := by decide +kernel
theorem dX15_pitchAt_33 : decode cX15_pitchAt 33 = .ok (.invokevirtual 253, 3) := by decide +kernel
theorem dX15_pitchAt_36 : decode cX15_pitchAt 36 = .ok (.ireturn, 1) := by decide +kernel
theorem dX15_contourAt_0 : decode cX15_contourAt 0 = .ok (.aload_n 0, 1) := by decide +kernel
theorem dX15_contourAt_1 : decode cX15_contourAt 1 = .ok (.iconst 0, 1) := by decide +kernel
theorem dX15_contourAt_2 : decode cX15_contourAt 2 = .ok (.putfield 62, 3) := by decide +kernel
theorem dX15_contourAt_5 : decode cX15_contourAt 5 = .ok (.aload_n 0, 1) := by decide +kernel
theorem dX15_contourAt_6 : decode cX15_contourAt 6 = .ok (.iload_n 1, 1) := by decide +kernel
theorem dX15_contourAt_7 : decode cX15_contourAt 7 = .ok (.iload_n 2, 1) := by decide +kernel
theorem dX15_contourAt_8 : decode cX15_contourAt 8 = .ok (.invokevirtual 344, 3) := by decide +kernel
theorem dX15_contourAt_11 : decode cX15_contourAt 11 = .ok (.ifCond .eq 15, 3) := by decide +kernel
theorem dX15_contourAt_14 : decode cX15_contourAt 14 = .ok (.aload_n 0, 1) := by decide +kernel
theorem dX15_contourAt_15 : decode cX15_contourAt 15 = .ok (.getfield 48, 3) := by decide +kernel
theorem dX15_contourAt_18 : decode cX15_contourAt 18 = .ok (.iload_n 1, 1) := by decide +kernel
theorem dX15_contourAt_19 : decode cX15_contourAt 19 = .ok (.iload_n 2, 1) := by decide +kernel
theorem dX15_contourAt_20 : decode cX15_contourAt 20 = .ok (.invokestatic 277, 3) := by decide +kernel
theorem dX15_contourAt_23 : decode cX15_contourAt 23 = .ok (.goto 8, 3) := by decide +kernel
theorem dX15_contourAt_26 : decode cX15_contourAt 26 = .ok (.aload_n 0, 1) := by decide +kernel
theorem dX15_contourAt_27 : decode cX15_contourAt 27 = .ok (.iconst 1, 1) := by decide +kernel
theorem dX15_contourAt_28 : decode cX15_contourAt 28 = .ok (.invokevirtual 253, 3) := by decide +kernel
theorem dX15_contourAt_31 : decode cX15_contourAt 31 = .ok (.ireturn, 1) := by decide +kernel
theorem dX15_isPruned_0 : decode cX15_isPruned 0 = .ok (.aload_n 0, 1) := by decide +kernel
theorem dX15_isPruned_1 : decode cX15_isPruned 1 = .ok (.iconst 0, 1) := by decide +kernel
theorem dX15_isPruned_2 : decode cX15_isPruned 2 = .ok (.putfield 62, 3) := by decide +kernel
theorem dX15_isPruned_5 : decode cX15_isPruned 5 = .ok (.aload_n 0, 1) := by decide +kernel
theorem dX15_isPruned_6 : decode cX15_isPruned 6 = .ok (.iload_n 1, 1) := by decide +kernel
theorem dX15_isPruned_7 : decode cX15_isPruned 7 = .ok (.invokevirtual 341, 3) := by decide +kernel
theorem dX15_isPruned_10 : decode cX15_isPruned 10 = .ok (.ifCond .eq 24, 3) := by decide +kernel
theorem dX15_isPruned_13 : decode cX15_isPruned 13 = .ok (.aload_n 0, 1) := by decide +kernel
theorem dX15_isPruned_14 : decode cX15_isPruned 14 = .ok (.getfield 48, 3) := by decide +kernel
theorem dX15_isPruned_17 : decode cX15_isPruned 17 = .ok (.getfield 293, 3) := by decide +kernel
theorem dX15_isPruned_20 : decode cX15_isPruned 20 = .ok (.iload_n 1, 1) := by decide +kernel
theorem dX15_isPruned_21 : decode cX15_isPruned 21 = .ok (.iaload, 1) := by decide +kernel
theorem dX15_isPruned_22 : decode cX15_isPruned 22 = .ok (.iconst 1, 1) := by decide +kernel
theorem dX15_isPruned_23 : decode cX15_isPruned 23 = .ok (.if_icmp .ne 7, 3) := by decide +kernel
theorem dX15_isPruned_26 : decode cX15_isPruned 26 = .ok (.iconst 1, 1) := by decide +kernel
theorem dX15_isPruned_27 : decode cX15_isPruned 27 = .ok (.goto 12, 3) := by decide +kernel
theorem dX15_isPruned_30 : decode cX15_isPruned 30 = .ok (.iconst 0, 1) := by decide +kernel
theorem dX15_isPruned_31 : decode cX15_isPruned 31 = .ok (.goto 8, 3) := by decide +kernel
theorem dX15_isPruned_34 : decode cX15_isPruned 34 = .ok (.aload_n 0, 1) := by decide +kernel
theorem dX15_isPruned_35 : decode cX15_isPruned 35 = .ok (.iconst 1, 1) := by decide +kernel
theorem dX15_isPruned_36 : decode cX15_isPruned 36 = .ok (.invokevirtual 347, 3) := by decide +kernel
theorem dX15_isPruned_39 : decode cX15_isPruned 39 = .ok (.ireturn, 1) := by decide +kernel
theorem dX15_silentBeats_0 : decode cX15_silentBeats 0 = .ok (.aload_n 0, 1) := by decide +kernel
theorem dX15_silentBeats_1 : decode cX15_silentBeats 1 = .ok (.iconst 0, 1) := by decide +kernel
theorem dX15_silentBeats_2 : decode cX15_silentBeats 2 = .ok (.putfield 62, 3) := by decide +kernel
theorem dX15_silentBeats_5 : decode cX15_silentBeats 5 = .ok (.aload_n 0, 1) := by decide +kernel
theorem dX15_silentBeats_6 : decode cX15_silentBeats 6 = .ok (.iload_n 1, 1) := by decide +kernel
theorem dX15_silentBeats_7 : decode cX15_silentBeats 7 = .ok (.invokevirtual 341, 3) := by decide +kernel
theorem dX15_silentBeats_10 : decode cX15_silentBeats 10 = .ok (.ifCond .ne 9, 3) := by decide +kernel
theorem dX15_silentBeats_13 : decode cX15_silentBeats 13 = .ok (.aload_n 0, 1) := by decide +kernel
theorem dX15_silentBeats_14 : decode cX15_silentBeats 14 = .ok (.iconst 1, 1) := by decide +kernel
theorem dX15_silentBeats_15 : decode cX15_silentBeats 15 = .ok (.invokevirtual 253, 3) := by decide +kernel
theorem dX15_silentBeats_18 : decode cX15_silentBeats 18 = .ok (.ireturn, 1) := by decide +kernel
theorem dX15_silentBeats_19 : decode cX15_silentBeats 19 = .ok (.iconst 0, 1) := by decide +kernel
theorem dX15_silentBeats_20 : decode cX15_silentBeats 20 = .ok (.istore_n 2, 1) := by decide +kernel
theorem dX15_silentBeats_21 : decode cX15_silentBeats 21 = .ok (.iconst 0, 1) := by decide +kernel
theorem dX15_silentBeats_22 : decode cX15_silentBeats 22 = .ok (.istore_n 3, 1) := by decide +kernel
theorem dX15_silentBeats_23 : decode cX15_silentBeats 23 = .ok (.iload_n 3, 1) := by decide +kernel
theorem dX15_silentBeats_24 : decode cX15_silentBeats 24 = .ok (.aload_n 0, 1) := by decide +kernel
theorem dX15_silentBeats_25 : decode cX15_silentBeats 25 = .ok (.getfield 48, 3) := by decide +kernel
theorem dX15_silentBeats_28 : decode cX15_silentBeats 28 = .ok (.getfield 270, 3) := by decide +kernel
theorem dX15_silentBeats_31 : decode cX15_silentBeats 31 = .ok (.iload_n 1, 1) := by decide +kernel
theorem dX15_silentBeats_32 : decode cX15_silentBeats 32 = .ok (.iaload, 1) := by decide +kernel
theorem dX15_silentBeats_33 : decode cX15_silentBeats 33 = .ok (.if_icmp .ge 34, 3) := by decide +kernel
theorem dX15_silentBeats_36 : decode cX15_silentBeats 36 = .ok (.iload_n 2, 1) := by decide +kernel
theorem dX15_silentBeats_37 : decode cX15_silentBeats 37 = .ok (.aload_n 0, 1) := by decide +kernel
theorem dX15_silentBeats_38 : decode cX15_silentBeats 38 = .ok (.getfield 48, 3) := by decide +kernel
theorem dX15_silentBeats_41 : decode cX15_silentBeats 41 = .ok (.getfield 271, 3) := by decide +kernel
theorem dX15_silentBeats_44 : decode cX15_silentBeats 44 = .ok (.bipush 24, 2) := by decide +kernel
theorem dX15_silentBeats_46 : decode cX15_silentBeats 46 = .ok (.iload_n 1, 1) := by decide +kernel
theorem dX15_silentBeats_47 : decode cX15_silentBeats 47 = .ok (.imul, 1) := by decide +kernel
theorem dX15_silentBeats_48 : decode cX15_silentBeats 48 = .ok (.iload_n 3, 1) := by decide +kernel
theorem dX15_silentBeats_49 : decode cX15_silentBeats 49 = .ok (.iadd, 1) := by decide +kernel
theorem dX15_silentBeats_50 : decode cX15_silentBeats 50 = .ok (.iaload, 1) := by decide +kernel
theorem dX15_silentBeats_51 : decode cX15_silentBeats 51 = .ok (.ifCond .ne 7, 3) := by decide +kernel
theorem dX15_silentBeats_54 : decode cX15_silentBeats 54 = .ok (.iconst 1, 1) := by decide +kernel
theorem dX15_silentBeats_55 : decode cX15_silentBeats 55 = .ok (.goto 4, 3) := by decide +kernel
theorem dX15_silentBeats_58 : decode cX15_silentBeats 58 = .ok (.iconst 0, 1) := by decide +kernel
theorem dX15_silentBeats_59 : decode cX15_silentBeats 59 = .ok (.iadd, 1) := by decide +kernel
theorem dX15_silentBeats_60 : decode cX15_silentBeats 60 = .ok (.istore_n 2, 1) := by decide +kernel
theorem dX15_silentBeats_61 : decode cX15_silentBeats 61 = .ok (.iinc 3 1, 3) := by decide +kernel
theorem dX15_silentBeats_64 : decode cX15_silentBeats 64 = .ok (.goto (-41), 3) := by decide +kernel
theorem dX15_silentBeats_67 : decode cX15_silentBeats 67 = .ok (.iload_n 2, 1) := by decide +kernel
theorem dX15_silentBeats_68 : decode cX15_silentBeats 68 = .ok (.ireturn, 1) := by decide +kernel
theorem dX15_distanceBetween_0 : decode cX15_distanceBetween 0 = .ok (.aload_n 0, 1) := by decide +kernel
theorem dX15_distanceBetween_1 : decode cX15_distanceBetween 1 = .ok (.iconst 0, 1) := by decide +kernel
theorem dX15_distanceBetween_2 : decode cX15_distanceBetween 2 = .ok (.putfield 62, 3) := by decide +kernel
theorem dX15_distanceBetween_5 : decode cX15_distanceBetween 5 = .ok (.aload_n 0, 1) := by decide +kernel
theorem dX15_distanceBetween_6 : decode cX15_distanceBetween 6 = .ok (.iload_n 1, 1) := by decide +kernel
theorem dX15_distanceBetween_7 : decode cX15_distanceBetween 7 = .ok (.invokevirtual 341, 3) := by decide +kernel
theorem dX15_distanceBetween_10 : decode cX15_distanceBetween 10 = .ok (.ifCond .eq 24, 3) := by decide +kernel
theorem dX15_distanceBetween_13 : decode cX15_distanceBetween 13 = .ok (.aload_n 0, 1) := by decide +kernel
theorem dX15_distanceBetween_14 : decode cX15_distanceBetween 14 = .ok (.iload_n 2, 1) := by decide +kernel
theorem dX15_distanceBetween_15 : decode cX15_distanceBetween 15 = .ok (.invokevirtual 341, 3) := by decide +kernel
theorem dX15_distanceBetween_18 : decode cX15_distanceBetween 18 = .ok (.ifCond .eq 16, 3) := by decide +kernel
theorem dX15_distanceBetween_21 : decode cX15_distanceBetween 21 = .ok (.aload_n 0, 1) := by decide +kernel
theorem dX15_distanceBetween_22 : decode cX15_distanceBetween 22 = .ok (.aload_n 0, 1) := by decide +kernel
theorem dX15_distanceBetween_23 : decode cX15_distanceBetween 23 = .ok (.getfield 48, 3) := by decide +kernel
theorem dX15_distanceBetween_26 : decode cX15_distanceBetween 26 = .ok (.iload_n 1, 1) := by decide +kernel
theorem dX15_distanceBetween_27 : decode cX15_distanceBetween 27 = .ok (.iload_n 2, 1) := by decide +kernel
theorem dX15_distanceBetween_28 : decode cX15_distanceBetween 28 = .ok (.invokevirtual 296, 3) := by decide +kernel
theorem dX15_distanceBetween_31 : decode cX15_distanceBetween 31 = .ok (.goto 8, 3) := by decide +kernel
theorem dX15_distanceBetween_34 : decode cX15_distanceBetween 34 = .ok (.aload_n 0, 1) := by decide +kernel
theorem dX15_distanceBetween_35 : decode cX15_distanceBetween 35 = .ok (.iconst 1, 1) := by decide +kernel
theorem dX15_distanceBetween_36 : decode cX15_distanceBetween 36 = .ok (.invokevirtual 253, 3) := by decide +kernel
theorem dX15_distanceBetween_39 : decode cX15_distanceBetween 39 = .ok (.ireturn, 1) := by decide +kernel
theorem dX15_contourBetween_0 : decode cX15_contourBetween 0 = .ok (.aload_n 0, 1) := by decide +kernel
theorem dX15_contourBetween_1 : decode cX15_contourBetween 1 = .ok (.iconst 0, 1) := by decide +kernel
theorem dX15_contourBetween_2 : decode cX15_contourBetween 2 = .ok (.putfield 62, 3) := by decide +kernel
theorem dX15_contourBetween_5 : decode cX15_contourBetween 5 = .ok (.aload_n 0, 1) := by decide +kernel
theorem dX15_contourBetween_6 : decode cX15_contourBetween 6 = .ok (.iload_n 1, 1) := by decide +kernel
theorem dX15_contourBetween_7 : decode cX15_contourBetween 7 = .ok (.invokevirtual 341, 3) := by decide +kernel
theorem dX15_contourBetween_10 : decode cX15_contourBetween 10 = .ok (.ifCond .eq 28, 3) := by decide +kernel
theorem dX15_contourBetween_13 : decode cX15_contourBetween 13 = .ok (.aload_n 0, 1) := by decide +kernel
theorem dX15_contourBetween_14 : decode cX15_contourBetween 14 = .ok (.iload_n 2, 1) := by decide +kernel
theorem dX15_contourBetween_15 : decode cX15_contourBetween 15 = .ok (.invokevirtual 341, 3) := by decide +kernel
theorem dX15_contourBetween_18 : decode cX15_contourBetween 18 = .ok (.ifCond .eq 20, 3) := by decide +kernel
theorem dX15_contourBetween_21 : decode cX15_contourBetween 21 = .ok (.aload_n 0, 1) := by decide +kernel
theorem dX15_contourBetween_22 : decode cX15_contourBetween 22 = .ok (.aload_n 0, 1) := by decide +kernel
theorem dX15_contourBetween_23 : decode cX15_contourBetween 23 = .ok (.getfield 48, 3) := by decide +kernel
theorem dX15_contourBetween_26 : decode cX15_contourBetween 26 = .ok (.iload_n 1, 1) := by decide +kernel
theorem dX15_contourBetween_27 : decode cX15_contourBetween 27 = .ok (.iload_n 2, 1) := by decide +kernel
theorem dX15_contourBetween_28 : decode cX15_contourBetween 28 = .ok (.iconst 1, 1) := by decide +kernel
theorem dX15_contourBetween_29 : decode cX15_contourBetween 29 = .ok (.invokevirtual 289, 3) := by decide +kernel
theorem dX15_contourBetween_32 : decode cX15_contourBetween 32 = .ok (.bipush 100, 2) := by decide +kernel
theorem dX15_contourBetween_34 : decode cX15_contourBetween 34 = .ok (.idiv, 1) := by decide +kernel
theorem dX15_contourBetween_35 : decode cX15_contourBetween 35 = .ok (.goto 8, 3) := by decide +kernel
theorem dX15_contourBetween_38 : decode cX15_contourBetween 38 = .ok (.aload_n 0, 1) := by decide +kernel
theorem dX15_contourBetween_39 : decode cX15_contourBetween 39 = .ok (.iconst 1, 1) := by decide +kernel
theorem dX15_contourBetween_40 : decode cX15_contourBetween 40 = .ok (.invokevirtual 253, 3) := by decide +kernel
theorem dX15_contourBetween_43 : decode cX15_contourBetween 43 = .ok (.ireturn, 1) := by decide +kernel
theorem dX15_areNear_0 : decode cX15_areNear 0 = .ok (.aload_n 0, 1) := by decide +kernel
theorem dX15_areNear_1 : decode cX15_areNear 1 = .ok (.iconst 0, 1) := by decide +kernel
theorem dX15_areNear_2 : decode cX15_areNear 2 = .ok (.putfield 62, 3) := by decide +kernel
theorem dX15_areNear_5 : decode cX15_areNear 5 = .ok (.aload_n 0, 1) := by decide +kernel
theorem dX15_areNear_6 : decode cX15_areNear 6 = .ok (.iload_n 1, 1) := by decide +kernel
theorem dX15_areNear_7 : decode cX15_areNear 7 = .ok (.invokevirtual 341, 3) := by decide +kernel
theorem dX15_areNear_10 : decode cX15_areNear 10 = .ok (.ifCond .eq 24, 3) := by decide +kernel
theorem dX15_areNear_13 : decode cX15_areNear 13 = .ok (.aload_n 0, 1) := by decide +kernel
theorem dX15_areNear_14 : decode cX15_areNear 14 = .ok (.iload_n 2, 1) := by decide +kernel
theorem dX15_areNear_15 : decode cX15_areNear 15 = .ok (.invokevirtual 341, 3) := by decide +kernel
theorem dX15_areNear_18 : decode cX15_areNear 18 = .ok (.ifCond .eq 16, 3) := by decide +kernel
theorem dX15_areNear_21 : decode cX15_areNear 21 = .ok (.aload_n 0, 1) := by decide +kernel
theorem dX15_areNear_22 : decode cX15_areNear 22 = .ok (.aload_n 0, 1) := by decide +kernel
theorem dX15_areNear_23 : decode cX15_areNear 23 = .ok (.getfield 48, 3) := by decide +kernel
theorem dX15_areNear_26 : decode cX15_areNear 26 = .ok (.iload_n 1, 1) := by decide +kernel
theorem dX15_areNear_27 : decode cX15_areNear 27 = .ok (.iload_n 2, 1) := by decide +kernel
theorem dX15_areNear_28 : decode cX15_areNear 28 = .ok (.invokevirtual 299, 3) := by decide +kernel
theorem dX15_areNear_31 : decode cX15_areNear 31 = .ok (.goto 8, 3) := by decide +kernel
theorem dX15_areNear_34 : decode cX15_areNear 34 = .ok (.aload_n 0, 1) := by decide +kernel
theorem dX15_areNear_35 : decode cX15_areNear 35 = .ok (.iconst 1, 1) := by decide +kernel
theorem dX15_areNear_36 : decode cX15_areNear 36 = .ok (.invokevirtual 347, 3) := by decide +kernel
theorem dX15_areNear_39 : decode cX15_areNear 39 = .ok (.ireturn, 1) := by decide +kernel
theorem dX15_nearestTo_0 : decode cX15_nearestTo 0 = .ok (.aload_n 0, 1) := by decide +kernel
theorem dX15_nearestTo_1 : decode cX15_nearestTo 1 = .ok (.iconst 0, 1) := by decide +kernel
theorem dX15_nearestTo_2 : decode cX15_nearestTo 2 = .ok (.putfield 62, 3) := by decide +kernel
theorem dX15_nearestTo_5 : decode cX15_nearestTo 5 = .ok (.aload_n 0, 1) := by decide +kernel
theorem dX15_nearestTo_6 : decode cX15_nearestTo 6 = .ok (.iload_n 1, 1) := by decide +kernel
theorem dX15_nearestTo_7 : decode cX15_nearestTo 7 = .ok (.invokevirtual 341, 3) := by decide +kernel
theorem dX15_nearestTo_10 : decode cX15_nearestTo 10 = .ok (.ifCond .ne 9, 3) := by decide +kernel
theorem dX15_nearestTo_13 : decode cX15_nearestTo 13 = .ok (.aload_n 0, 1) := by decide +kernel
theorem dX15_nearestTo_14 : decode cX15_nearestTo 14 = .ok (.iconst 1, 1) := by decide +kernel
theorem dX15_nearestTo_15 : decode cX15_nearestTo 15 = .ok (.invokevirtual 253, 3) := by decide +kernel
theorem dX15_nearestTo_18 : decode cX15_nearestTo 18 = .ok (.ireturn, 1) := by decide +kernel
theorem dX15_nearestTo_19 : decode cX15_nearestTo 19 = .ok (.iconst (-1), 1) := by decide +kernel
theorem dX15_nearestTo_20 : decode cX15_nearestTo 20 = .ok (.istore_n 2, 1) := by decide +kernel
theorem dX15_nearestTo_21 : decode cX15_nearestTo 21 = .ok (.iconst 0, 1) := by decide +kernel
theorem dX15_nearestTo_22 : decode cX15_nearestTo 22 = .ok (.istore_n 3, 1) := by decide +kernel
theorem dX15_nearestTo_23 : decode cX15_nearestTo 23 = .ok (.iconst 0, 1) := by decide +kernel
theorem dX15_nearestTo_24 : decode cX15_nearestTo 24 = .ok (.istore 4, 2) := by decide +kernel
theorem dX15_nearestTo_26 : decode cX15_nearestTo 26 = .ok (.iload 4, 2) := by decide +kernel
theorem dX15_nearestTo_28 : decode cX15_nearestTo 28 = .ok (.aload_n 0, 1) := by decide +kernel
theorem dX15_nearestTo_29 : decode cX15_nearestTo 29 = .ok (.getfield 35, 3) := by decide +kernel
theorem dX15_nearestTo_32 : decode cX15_nearestTo 32 = .ok (.getfield 147, 3) := by decide +kernel
theorem dX15_nearestTo_35 : decode cX15_nearestTo 35 = .ok (.if_icmp .ge 51, 3) := by decide +kernel
theorem dX15_nearestTo_38 : decode cX15_nearestTo 38 = .ok (.iload 4, 2) := by decide +kernel
theorem dX15_nearestTo_40 : decode cX15_nearestTo 40 = .ok (.iload_n 1, 1) := by decide +kernel
theorem dX15_nearestTo_41 : decode cX15_nearestTo 41 = .ok (.if_icmp .ne 6, 3) := by decide +kernel
theorem dX15_nearestTo_44 : decode cX15_nearestTo 44 = .ok (.goto 36, 3) := by decide +kernel
theorem dX15_nearestTo_47 : decode cX15_nearestTo 47 = .ok (.aload_n 0, 1) := by decide +kernel
theorem dX15_nearestTo_48 : decode cX15_nearestTo 48 = .ok (.aload_n 0, 1) := by decide +kernel
theorem dX15_nearestTo_49 : decode cX15_nearestTo 49 = .ok (.getfield 48, 3) := by decide +kernel
theorem dX15_nearestTo_52 : decode cX15_nearestTo 52 = .ok (.iload 4, 2) := by decide +kernel
theorem dX15_nearestTo_54 : decode cX15_nearestTo 54 = .ok (.iload_n 1, 1) := by decide +kernel
theorem dX15_nearestTo_55 : decode cX15_nearestTo 55 = .ok (.invokevirtual 296, 3) := by decide +kernel
theorem dX15_nearestTo_58 : decode cX15_nearestTo 58 = .ok (.istore 5, 2) := by decide +kernel
theorem dX15_nearestTo_60 : decode cX15_nearestTo 60 = .ok (.iload_n 2, 1) := by decide +kernel
theorem dX15_nearestTo_61 : decode cX15_nearestTo 61 = .ok (.iconst (-1), 1) := by decide +kernel
theorem dX15_nearestTo_62 : decode cX15_nearestTo 62 = .ok (.if_icmp .eq 12, 3) := by decide +kernel
theorem dX15_nearestTo_65 : decode cX15_nearestTo 65 = .ok (.iload 5, 2) := by decide +kernel
theorem dX15_nearestTo_67 : decode cX15_nearestTo 67 = .ok (.iload_n 3, 1) := by decide +kernel
theorem dX15_nearestTo_68 : decode cX15_nearestTo 68 = .ok (.if_icmp .lt 6, 3) := by decide +kernel
theorem dX15_nearestTo_71 : decode cX15_nearestTo 71 = .ok (.goto 9, 3) := by decide +kernel
theorem dX15_nearestTo_74 : decode cX15_nearestTo 74 = .ok (.iload 4, 2) := by decide +kernel
theorem dX15_nearestTo_76 : decode cX15_nearestTo 76 = .ok (.istore_n 2, 1) := by decide +kernel
theorem dX15_nearestTo_77 : decode cX15_nearestTo 77 = .ok (.iload 5, 2) := by decide +kernel
theorem dX15_nearestTo_79 : decode cX15_nearestTo 79 = .ok (.istore_n 3, 1) := by decide +kernel
theorem dX15_nearestTo_80 : decode cX15_nearestTo 80 = .ok (.iinc 4 1, 3) := by decide +kernel
theorem dX15_nearestTo_83 : decode cX15_nearestTo 83 = .ok (.goto (-57), 3) := by decide +kernel
theorem dX15_nearestTo_86 : decode cX15_nearestTo 86 = .ok (.iload_n 2, 1) := by decide +kernel
theorem dX15_nearestTo_87 : decode cX15_nearestTo 87 = .ok (.iconst (-1), 1) := by decide +kernel
theorem dX15_nearestTo_88 : decode cX15_nearestTo 88 = .ok (.if_icmp .ne 11, 3) := by decide +kernel
theorem dX15_nearestTo_91 : decode cX15_nearestTo 91 = .ok (.aload_n 0, 1) := by decide +kernel
theorem dX15_nearestTo_92 : decode cX15_nearestTo 92 = .ok (.iconst 2, 1) := by decide +kernel
theorem dX15_nearestTo_93 : decode cX15_nearestTo 93 = .ok (.invokevirtual 253, 3) := by decide +kernel
theorem dX15_nearestTo_96 : decode cX15_nearestTo 96 = .ok (.goto 4, 3) := by decide +kernel
theorem dX15_nearestTo_99 : decode cX15_nearestTo 99 = .ok (.iload_n 2, 1) := by decide +kernel
theorem dX15_nearestTo_100 : decode cX15_nearestTo 100 = .ok (.ireturn, 1) := by decide +kernel
theorem dX15_isNeedless_0 : decode cX15_isNeedless 0 = .ok (.aload_n 0, 1) := by decide +kernel
theorem dX15_isNeedless_1 : decode cX15_isNeedless 1 = .ok (.iconst 0, 1) := by decide +kernel
theorem dX15_isNeedless_2 : decode cX15_isNeedless 2 = .ok (.putfield 62, 3) := by decide +kernel
theorem dX15_isNeedless_5 : decode cX15_isNeedless 5 = .ok (.aload_n 0, 1) := by decide +kernel
theorem dX15_isNeedless_6 : decode cX15_isNeedless 6 = .ok (.iload_n 1, 1) := by decide +kernel
theorem dX15_isNeedless_7 : decode cX15_isNeedless 7 = .ok (.invokevirtual 341, 3) := by decide +kernel
theorem dX15_isNeedless_10 : decode cX15_isNeedless 10 = .ok (.ifCond .eq 11, 3) := by decide +kernel
theorem dX15_isNeedless_13 : decode cX15_isNeedless 13 = .ok (.aload_n 0, 1) := by decide +kernel
theorem dX15_isNeedless_14 : decode cX15_isNeedless 14 = .ok (.iload_n 1, 1) := by decide +kernel
theorem dX15_isNeedless_15 : decode cX15_isNeedless 15 = .ok (.invokevirtual 350, 3) := by decide +kernel
theorem dX15_isNeedless_18 : decode cX15_isNeedless 18 = .ok (.goto 8, 3) := by decide +kernel
theorem dX15_isNeedless_21 : decode cX15_isNeedless 21 = .ok (.aload_n 0, 1) := by decide +kernel
theorem dX15_isNeedless_22 : decode cX15_isNeedless 22 = .ok (.iconst 1, 1) := by decide +kernel
theorem dX15_isNeedless_23 : decode cX15_isNeedless 23 = .ok (.invokevirtual 347, 3) := by decide +kernel
theorem dX15_isNeedless_26 : decode cX15_isNeedless 26 = .ok (.ireturn, 1) := by decide +kernel
theorem dX15_heardPitch_0 : decode cX15_heardPitch 0 = .ok (.aload_n 0, 1) := by decide +kernel
theorem dX15_heardPitch_1 : decode cX15_heardPitch 1 = .ok (.iconst 0, 1) := by decide +kernel
theorem dX15_heardPitch_2 : decode cX15_heardPitch 2 = .ok (.putfield 62, 3) := by decide +kernel
theorem dX15_heardPitch_5 : decode cX15_heardPitch 5 = .ok (.iload_n 1, 1) := by decide +kernel
theorem dX15_heardPitch_6 : decode cX15_heardPitch 6 = .ok (.iconst 0, 1) := by decide +kernel
theorem dX15_heardPitch_7 : decode cX15_heardPitch 7 = .ok (.aload_n 0, 1) := by decide +kernel
theorem dX15_heardPitch_8 : decode cX15_heardPitch 8 = .ok (.getfield 48, 3) := by decide +kernel
theorem dX15_heardPitch_11 : decode cX15_heardPitch 11 = .ok (.getfield 270, 3) := by decide +kernel
theorem dX15_heardPitch_14 : decode cX15_heardPitch 14 = .ok (.bipush 8, 2) := by decide +kernel
theorem dX15_heardPitch_16 : decode cX15_heardPitch 16 = .ok (.iaload, 1) := by decide +kernel
theorem dX15_heardPitch_17 : decode cX15_heardPitch 17 = .ok (.iconst 1, 1) := by decide +kernel
theorem dX15_heardPitch_18 : decode cX15_heardPitch 18 = .ok (.isub, 1) := by decide +kernel
theorem dX15_heardPitch_19 : decode cX15_heardPitch 19 = .ok (.invokestatic 65, 3) := by decide +kernel
theorem dX15_heardPitch_22 : decode cX15_heardPitch 22 = .ok (.ifCond .eq 19, 3) := by decide +kernel
theorem dX15_heardPitch_25 : decode cX15_heardPitch 25 = .ok (.aload_n 0, 1) := by decide +kernel
theorem dX15_heardPitch_26 : decode cX15_heardPitch 26 = .ok (.getfield 48, 3) := by decide +kernel
theorem dX15_heardPitch_29 : decode cX15_heardPitch 29 = .ok (.getfield 271, 3) := by decide +kernel
theorem dX15_heardPitch_32 : decode cX15_heardPitch 32 = .ok (.sipush 192, 3) := by decide +kernel
theorem dX15_heardPitch_35 : decode cX15_heardPitch 35 = .ok (.iload_n 1, 1) := by decide +kernel
theorem dX15_heardPitch_36 : decode cX15_heardPitch 36 = .ok (.iadd, 1) := by decide +kernel
theorem dX15_heardPitch_37 : decode cX15_heardPitch 37 = .ok (.iaload, 1) := by decide +kernel
theorem dX15_heardPitch_38 : decode cX15_heardPitch 38 = .ok (.goto 8, 3) := by decide +kernel
theorem dX15_heardPitch_41 : decode cX15_heardPitch 41 = .ok (.aload_n 0, 1) := by decide +kernel
theorem dX15_heardPitch_42 : decode cX15_heardPitch 42 = .ok (.iconst 1, 1) := by decide +kernel
theorem dX15_heardPitch_43 : decode cX15_heardPitch 43 = .ok (.invokevirtual 253, 3) := by decide +kernel
theorem dX15_heardPitch_46 : decode cX15_heardPitch 46 = .ok (.ireturn, 1) := by decide +kernel
theorem dX15_isHeard_0 : decode cX15_isHeard 0 = .ok (.aload_n 0, 1) := by decide +kernel
theorem dX15_isHeard_1 : decode cX15_isHeard 1 = .ok (.aload_n 0, 1) := by decide +kernel
theorem dX15_isHeard_2 : decode cX15_isHeard 2 = .ok (.iload_n 1, 1) := by decide +kernel
theorem dX15_isHeard_3 : decode cX15_isHeard 3 = .ok (.invokevirtual 341, 3) := by decide +kernel
theorem dX15_isHeard_6 : decode cX15_isHeard 6 = .ok (.ifCond .ne 7, 3) := by decide +kernel
theorem dX15_isHeard_9 : decode cX15_isHeard 9 = .ok (.iconst 1, 1) := by decide +kernel
theorem dX15_isHeard_10 : decode cX15_isHeard 10 = .ok (.goto 21, 3) := by decide +kernel
theorem dX15_isHeard_13 : decode cX15_isHeard 13 = .ok (.aload_n 0, 1) := by decide +kernel
theorem dX15_isHeard_14 : decode cX15_isHeard 14 = .ok (.getfield 48, 3) := by decide +kernel
theorem dX15_isHeard_17 : decode cX15_isHeard 17 = .ok (.getfield 270, 3) := by decide +kernel
theorem dX15_isHeard_20 : decode cX15_isHeard 20 = .ok (.bipush 8, 2) := by decide +kernel
theorem dX15_isHeard_22 : decode cX15_isHeard 22 = .ok (.iaload, 1) := by decide +kernel
theorem dX15_isHeard_23 : decode cX15_isHeard 23 = .ok (.ifCond .ne 7, 3) := by decide +kernel
theorem dX15_isHeard_26 : decode cX15_isHeard 26 = .ok (.iconst 2, 1) := by decide +kernel
theorem dX15_isHeard_27 : decode cX15_isHeard 27 = .ok (.goto 4, 3) := by decide +kernel
theorem dX15_isHeard_30 : decode cX15_isHeard 30 = .ok (.iconst 0, 1) := by decide +kernel
theorem dX15_isHeard_31 : decode cX15_isHeard 31 = .ok (.putfield 62, 3) := by decide +kernel
theorem dX15_isHeard_34 : decode cX15_isHeard 34 = .ok (.aload_n 0, 1) := by decide +kernel
theorem dX15_isHeard_35 : decode cX15_isHeard 35 = .ok (.getfield 62, 3) := by decide +kernel
theorem dX15_isHeard_38 : decode cX15_isHeard 38 = .ok (.ifCond .ne 7, 3) := by decide +kernel
theorem dX15_isHeard_41 : decode cX15_isHeard 41 = .ok (.iconst 1, 1) := by decide +kernel
theorem dX15_isHeard_42 : decode cX15_isHeard 42 = .ok (.goto 4, 3) := by decide +kernel
theorem dX15_isHeard_45 : decode cX15_isHeard 45 = .ok (.iconst 0, 1) := by decide +kernel
theorem dX15_isHeard_46 : decode cX15_isHeard 46 = .ok (.ireturn, 1) := by decide +kernel
theorem dX15_distanceTo_0 : decode cX15_distanceTo 0 = .ok (.aload_n 0, 1) := by decide +kernel
theorem dX15_distanceTo_1 : decode cX15_distanceTo 1 = .ok (.iload_n 1, 1) := by decide +kernel
theorem dX15_distanceTo_2 : decode cX15_distanceTo 2 = .ok (.invokevirtual 353, 3) := by decide +kernel
theorem dX15_distanceTo_5 : decode cX15_distanceTo 5 = .ok (.ifCond .eq 17, 3) := by decide +kernel
theorem dX15_distanceTo_8 : decode cX15_distanceTo 8 = .ok (.aload_n 0, 1) := by decide +kernel
theorem dX15_distanceTo_9 : decode cX15_distanceTo 9 = .ok (.aload_n 0, 1) := by decide +kernel
theorem dX15_distanceTo_10 : decode cX15_distanceTo 10 = .ok (.getfield 48, 3) := by decide +kernel
theorem dX15_distanceTo_13 : decode cX15_distanceTo 13 = .ok (.iload_n 1, 1) := by decide +kernel
theorem dX15_distanceTo_14 : decode cX15_distanceTo 14 = .ok (.bipush 8, 2) := by decide +kernel
theorem dX15_distanceTo_16 : decode cX15_distanceTo 16 = .ok (.invokevirtual 296, 3) := by decide +kernel
theorem dX15_distanceTo_19 : decode cX15_distanceTo 19 = .ok (.goto 4, 3) := by decide +kernel
theorem dX15_distanceTo_22 : decode cX15_distanceTo 22 = .ok (.iconst 0, 1) := by decide +kernel
theorem dX15_distanceTo_23 : decode cX15_distanceTo 23 = .ok (.ireturn, 1) := by decide +kernel
theorem dX15_contourTo_0 : decode cX15_contourTo 0 = .ok (.aload_n 0, 1) := by decide +kernel
theorem dX15_contourTo_1 : decode cX15_contourTo 1 = .ok (.iload_n 1, 1) := by decide +kernel
theorem dX15_contourTo_2 : decode cX15_contourTo 2 = .ok (.invokevirtual 353, 3) := by decide +kernel
theorem dX15_contourTo_5 : decode cX15_contourTo 5 = .ok (.ifCond .eq 21, 3) := by decide +kernel
theorem dX15_contourTo_8 : decode cX15_contourTo 8 = .ok (.aload_n 0, 1) := by decide +kernel
theorem dX15_contourTo_9 : decode cX15_contourTo 9 = .ok (.aload_n 0, 1) := by decide +kernel
theorem dX15_contourTo_10 : decode cX15_contourTo 10 = .ok (.getfield 48, 3) := by decide +kernel
theorem dX15_contourTo_13 : decode cX15_contourTo 13 = .ok (.iload_n 1, 1) := by decide +kernel
theorem dX15_contourTo_14 : decode cX15_contourTo 14 = .ok (.bipush 8, 2) := by decide +kernel
theorem dX15_contourTo_16 : decode cX15_contourTo 16 = .ok (.iconst 1, 1) := by decide +kernel
theorem dX15_contourTo_17 : decode cX15_contourTo 17 = .ok (.invokevirtual 289, 3) := by decide +kernel
theorem dX15_contourTo_20 : decode cX15_contourTo 20 = .ok (.bipush 100, 2) := by decide +kernel
theorem dX15_contourTo_22 : decode cX15_contourTo 22 = .ok (.idiv, 1) := by decide +kernel
theorem dX15_contourTo_23 : decode cX15_contourTo 23 = .ok (.goto 4, 3) := by decide +kernel
theorem dX15_contourTo_26 : decode cX15_contourTo 26 = .ok (.iconst 0, 1) := by decide +kernel
theorem dX15_contourTo_27 : decode cX15_contourTo 27 = .ok (.ireturn, 1) := by decide +kernel
theorem dX15_stepsTo_0 : decode cX15_stepsTo 0 = .ok (.aload_n 0, 1) := by decide +kernel
theorem dX15_stepsTo_1 : decode cX15_stepsTo 1 = .ok (.iload_n 1, 1) := by decide +kernel
theorem dX15_stepsTo_2 : decode cX15_stepsTo 2 = .ok (.invokevirtual 353, 3) := by decide +kernel
theorem dX15_stepsTo_5 : decode cX15_stepsTo 5 = .ok (.ifCond .eq 21, 3) := by decide +kernel
theorem dX15_stepsTo_8 : decode cX15_stepsTo 8 = .ok (.aload_n 0, 1) := by decide +kernel
theorem dX15_stepsTo_9 : decode cX15_stepsTo 9 = .ok (.aload_n 0, 1) := by decide +kernel
theorem dX15_stepsTo_10 : decode cX15_stepsTo 10 = .ok (.getfield 48, 3) := by decide +kernel
theorem dX15_stepsTo_13 : decode cX15_stepsTo 13 = .ok (.iload_n 1, 1) := by decide +kernel
theorem dX15_stepsTo_14 : decode cX15_stepsTo 14 = .ok (.bipush 8, 2) := by decide +kernel
theorem dX15_stepsTo_16 : decode cX15_stepsTo 16 = .ok (.iconst 0, 1) := by decide +kernel
theorem dX15_stepsTo_17 : decode cX15_stepsTo 17 = .ok (.invokevirtual 289, 3) := by decide +kernel
theorem dX15_stepsTo_20 : decode cX15_stepsTo 20 = .ok (.bipush 100, 2) := by decide +kernel
theorem dX15_stepsTo_22 : decode cX15_stepsTo 22 = .ok (.irem, 1) := by decide +kernel
theorem dX15_stepsTo_23 : decode cX15_stepsTo 23 = .ok (.goto 4, 3) := by decide +kernel
theorem dX15_stepsTo_26 : decode cX15_stepsTo 26 = .ok (.iconst 0, 1) := by decide +kernel
theorem dX15_stepsTo_27 : decode cX15_stepsTo 27 = .ok (.ireturn, 1) := by decide +kernel
theorem dX15_meantWord_0 : decode cX15_meantWord 0 = .ok (.aload_n 0, 1) := by decide +kernel
theorem dX15_meantWord_1 : decode cX15_meantWord 1 = .ok (.aload_n 0, 1) := by decide +kernel
theorem dX15_meantWord_2 : decode cX15_meantWord 2 = .ok (.getfield 48, 3) := by decide +kernel
theorem dX15_meantWord_5 : decode cX15_meantWord 5 = .ok (.iconst (-1), 1) := by decide +kernel
theorem dX15_meantWord_6 : decode cX15_meantWord 6 = .ok (.invokevirtual 310, 3) := by decide +kernel
theorem dX15_meantWord_9 : decode cX15_meantWord 9 = .ok (.istore_n 1, 1) := by decide +kernel
theorem dX15_meantWord_10 : decode cX15_meantWord 10 = .ok (.iload_n 1, 1) := by decide +kernel
theorem dX15_meantWord_11 : decode cX15_meantWord 11 = .ok (.iconst (-1), 1) := by decide +kernel
theorem dX15_meantWord_12 : decode cX15_meantWord 12 = .ok (.if_icmp .ne 11, 3) := by decide +kernel
theorem dX15_meantWord_15 : decode cX15_meantWord 15 = .ok (.aload_n 0, 1) := by decide +kernel
theorem dX15_meantWord_16 : decode cX15_meantWord 16 = .ok (.iconst 1, 1) := by decide +kernel
theorem dX15_meantWord_17 : decode cX15_meantWord 17 = .ok (.invokevirtual 253, 3) := by decide +kernel
theorem dX15_meantWord_20 : decode cX15_meantWord 20 = .ok (.goto 8, 3) := by decide +kernel
theorem dX15_meantWord_23 : decode cX15_meantWord 23 = .ok (.aload_n 0, 1) := by decide +kernel
theorem dX15_meantWord_24 : decode cX15_meantWord 24 = .ok (.iload_n 1, 1) := by decide +kernel
theorem dX15_meantWord_25 : decode cX15_meantWord 25 = .ok (.invokevirtual 267, 3) := by decide +kernel
theorem dX15_meantWord_28 : decode cX15_meantWord 28 = .ok (.ireturn, 1) := by decide +kernel
theorem dX15_surety_0 : decode cX15_surety 0 = .ok (.aload_n 0, 1) := by decide +kernel
theorem dX15_surety_1 : decode cX15_surety 1 = .ok (.aload_n 0, 1) := by decide +kernel
theorem dX15_surety_2 : decode cX15_surety 2 = .ok (.getfield 48, 3) := by decide +kernel
theorem dX15_surety_5 : decode cX15_surety 5 = .ok (.iconst (-1), 1) := by decide +kernel
theorem dX15_surety_6 : decode cX15_surety 6 = .ok (.invokevirtual 310, 3) := by decide +kernel
theorem dX15_surety_9 : decode cX15_surety 9 = .ok (.istore_n 1, 1) := by decide +kernel
theorem dX15_surety_10 : decode cX15_surety 10 = .ok (.iload_n 1, 1) := by decide +kernel
theorem dX15_surety_11 : decode cX15_surety 11 = .ok (.iconst (-1), 1) := by decide +kernel
theorem dX15_surety_12 : decode cX15_surety 12 = .ok (.if_icmp .ne 9, 3) := by decide +kernel
theorem dX15_surety_15 : decode cX15_surety 15 = .ok (.aload_n 0, 1) := by decide +kernel
theorem dX15_surety_16 : decode cX15_surety 16 = .ok (.iconst 1, 1) := by decide +kernel
theorem dX15_surety_17 : decode cX15_surety 17 = .ok (.invokevirtual 253, 3) := by decide +kernel
theorem dX15_surety_20 : decode cX15_surety 20 = .ok (.ireturn, 1) := by decide +kernel
theorem dX15_surety_21 : decode cX15_surety 21 = .ok (.aload_n 0, 1) := by decide +kernel
theorem dX15_surety_22 : decode cX15_surety 22 = .ok (.aload_n 0, 1) := by decide +kernel
theorem dX15_surety_23 : decode cX15_surety 23 = .ok (.getfield 48, 3) := by decide +kernel
theorem dX15_surety_26 : decode cX15_surety 26 = .ok (.iload_n 1, 1) := by decide +kernel
theorem dX15_surety_27 : decode cX15_surety 27 = .ok (.invokevirtual 310, 3) := by decide +kernel
theorem dX15_surety_30 : decode cX15_surety 30 = .ok (.istore_n 2, 1) := by decide +kernel
theorem dX15_surety_31 : decode cX15_surety 31 = .ok (.aload_n 0, 1) := by decide +kernel
theorem dX15_surety_32 : decode cX15_surety 32 = .ok (.iload_n 2, 1) := by decide +kernel
theorem dX15_surety_33 : decode cX15_surety 33 = .ok (.iconst (-1), 1) := by decide +kernel
theorem dX15_surety_34 : decode cX15_surety 34 = .ok (.if_icmp .ne 7, 3) := by decide +kernel
theorem dX15_surety_37 : decode cX15_surety 37 = .ok (.iconst (-1), 1) := by decide +kernel
theorem dX15_surety_38 : decode cX15_surety 38 = .ok (.goto 26, 3) := by decide +kernel
theorem dX15_surety_41 : decode cX15_surety 41 = .ok (.aload_n 0, 1) := by decide +kernel
theorem dX15_surety_42 : decode cX15_surety 42 = .ok (.aload_n 0, 1) := by decide +kernel
theorem dX15_surety_43 : decode cX15_surety 43 = .ok (.getfield 48, 3) := by decide +kernel
theorem dX15_surety_46 : decode cX15_surety 46 = .ok (.iload_n 2, 1) := by decide +kernel
theorem dX15_surety_47 : decode cX15_surety 47 = .ok (.bipush 8, 2) := by decide +kernel
theorem dX15_surety_49 : decode cX15_surety 49 = .ok (.invokevirtual 296, 3) := by decide +kernel
theorem dX15_surety_52 : decode cX15_surety 52 = .ok (.aload_n 0, 1) := by decide +kernel
theorem dX15_surety_53 : decode cX15_surety 53 = .ok (.aload_n 0, 1) := by decide +kernel
theorem dX15_surety_54 : decode cX15_surety 54 = .ok (.getfield 48, 3) := by decide +kernel
theorem dX15_surety_57 : decode cX15_surety 57 = .ok (.iload_n 1, 1) := by decide +kernel
theorem dX15_surety_58 : decode cX15_surety 58 = .ok (.bipush 8, 2) := by decide +kernel
theorem dX15_surety_60 : decode cX15_surety 60 = .ok (.invokevirtual 296, 3) := by decide +kernel
theorem dX15_surety_63 : decode cX15_surety 63 = .ok (.isub, 1) := by decide +kernel
theorem dX15_surety_64 : decode cX15_surety 64 = .ok (.invokevirtual 267, 3) := by decide +kernel
theorem dX15_surety_67 : decode cX15_surety 67 = .ok (.ireturn, 1) := by decide +kernel
theorem dX15_hear_0 : decode cX15_hear 0 = .ok (.aload_n 0, 1) := by decide +kernel
theorem dX15_hear_1 : decode cX15_hear 1 = .ok (.iconst 0, 1) := by decide +kernel
theorem dX15_hear_2 : decode cX15_hear 2 = .ok (.putfield 62, 3) := by decide +kernel
theorem dX15_hear_5 : decode cX15_hear 5 = .ok (.iload_n 1, 1) := by decide +kernel
theorem dX15_hear_6 : decode cX15_hear 6 = .ok (.iconst 0, 1) := by decide +kernel
theorem dX15_hear_7 : decode cX15_hear 7 = .ok (.bipush 40, 2) := by decide +kernel
theorem dX15_hear_9 : decode cX15_hear 9 = .ok (.invokestatic 65, 3) := by decide +kernel
theorem dX15_hear_12 : decode cX15_hear 12 = .ok (.ifCond .ne 9, 3) := by decide +kernel
theorem dX15_hear_15 : decode cX15_hear 15 = .ok (.aload_n 0, 1) := by decide +kernel
theorem dX15_hear_16 : decode cX15_hear 16 = .ok (.iconst 1, 1) := by decide +kernel
theorem dX15_hear_17 : decode cX15_hear 17 = .ok (.invokevirtual 253, 3) := by decide +kernel
theorem dX15_hear_20 : decode cX15_hear 20 = .ok (.ireturn, 1) := by decide +kernel
theorem dX15_hear_21 : decode cX15_hear 21 = .ok (.aload_n 0, 1) := by decide +kernel
theorem dX15_hear_22 : decode cX15_hear 22 = .ok (.getfield 48, 3) := by decide +kernel
theorem dX15_hear_25 : decode cX15_hear 25 = .ok (.getfield 270, 3) := by decide +kernel
theorem dX15_hear_28 : decode cX15_hear 28 = .ok (.bipush 8, 2) := by decide +kernel
theorem dX15_hear_30 : decode cX15_hear 30 = .ok (.iaload, 1) := by decide +kernel
theorem dX15_hear_31 : decode cX15_hear 31 = .ok (.bipush 24, 2) := by decide +kernel
theorem dX15_hear_33 : decode cX15_hear 33 = .ok (.if_icmp .ne 9, 3) := by decide +kernel
theorem dX15_hear_36 : decode cX15_hear 36 = .ok (.aload_n 0, 1) := by decide +kernel
theorem dX15_hear_37 : decode cX15_hear 37 = .ok (.iconst 2, 1) := by decide +kernel
theorem dX15_hear_38 : decode cX15_hear 38 = .ok (.invokevirtual 253, 3) := by decide +kernel
theorem dX15_hear_41 : decode cX15_hear 41 = .ok (.ireturn, 1) := by decide +kernel
theorem dX15_hear_42 : decode cX15_hear 42 = .ok (.aload_n 0, 1) := by decide +kernel
theorem dX15_hear_43 : decode cX15_hear 43 = .ok (.getfield 48, 3) := by decide +kernel
theorem dX15_hear_46 : decode cX15_hear 46 = .ok (.getfield 271, 3) := by decide +kernel
theorem dX15_hear_49 : decode cX15_hear 49 = .ok (.sipush 192, 3) := by decide +kernel
theorem dX15_hear_52 : decode cX15_hear 52 = .ok (.aload_n 0, 1) := by decide +kernel
theorem dX15_hear_53 : decode cX15_hear 53 = .ok (.getfield 48, 3) := by decide +kernel
theorem dX15_hear_56 : decode cX15_hear 56 = .ok (.getfield 270, 3) := by decide +kernel
theorem dX15_hear_59 : decode cX15_hear 59 = .ok (.bipush 8, 2) := by decide +kernel
theorem dX15_hear_61 : decode cX15_hear 61 = .ok (.iaload, 1) := by decide +kernel
theorem dX15_hear_62 : decode cX15_hear 62 = .ok (.iadd, 1) := by decide +kernel
theorem dX15_hear_63 : decode cX15_hear 63 = .ok (.iload_n 1, 1) := by decide +kernel
theorem dX15_hear_64 : decode cX15_hear 64 = .ok (.iastore, 1) := by decide +kernel
theorem dX15_hear_65 : decode cX15_hear 65 = .ok (.aload_n 0, 1) := by decide +kernel
theorem dX15_hear_66 : decode cX15_hear 66 = .ok (.getfield 48, 3) := by decide +kernel
theorem dX15_hear_69 : decode cX15_hear 69 = .ok (.getfield 270, 3) := by decide +kernel
theorem dX15_hear_72 : decode cX15_hear 72 = .ok (.bipush 8, 2) := by decide +kernel
theorem dX15_hear_74 : decode cX15_hear 74 = .ok (.dup2, 1) := by decide +kernel
theorem dX15_hear_75 : decode cX15_hear 75 = .ok (.iaload, 1) := by decide +kernel
theorem dX15_hear_76 : decode cX15_hear 76 = .ok (.iconst 1, 1) := by decide +kernel
theorem dX15_hear_77 : decode cX15_hear 77 = .ok (.iadd, 1) := by decide +kernel
theorem dX15_hear_78 : decode cX15_hear 78 = .ok (.iastore, 1) := by decide +kernel
theorem dX15_hear_79 : decode cX15_hear 79 = .ok (.aload_n 0, 1) := by decide +kernel
theorem dX15_hear_80 : decode cX15_hear 80 = .ok (.getfield 48, 3) := by decide +kernel
theorem dX15_hear_83 : decode cX15_hear 83 = .ok (.getfield 270, 3) := by decide +kernel
theorem dX15_hear_86 : decode cX15_hear 86 = .ok (.bipush 8, 2) := by decide +kernel
theorem dX15_hear_88 : decode cX15_hear 88 = .ok (.iaload, 1) := by decide +kernel
theorem dX15_hear_89 : decode cX15_hear 89 = .ok (.ireturn, 1) := by decide +kernel
theorem dX15_hearWord_0 : decode cX15_hearWord 0 = .ok (.aload_n 0, 1) := by decide +kernel
theorem dX15_hearWord_1 : decode cX15_hearWord 1 = .ok (.iconst 0, 1) := by decide +kernel
theorem dX15_hearWord_2 : decode cX15_hearWord 2 = .ok (.putfield 62, 3) := by decide +kernel
theorem dX15_hearWord_5 : decode cX15_hearWord 5 = .ok (.aload_n 0, 1) := by decide +kernel
theorem dX15_hearWord_6 : decode cX15_hearWord 6 = .ok (.iload_n 1, 1) := by decide +kernel
theorem dX15_hearWord_7 : decode cX15_hearWord 7 = .ok (.invokevirtual 341, 3) := by decide +kernel
theorem dX15_hearWord_10 : decode cX15_hearWord 10 = .ok (.ifCond .ne 9, 3) := by decide +kernel
theorem dX15_hearWord_13 : decode cX15_hearWord 13 = .ok (.aload_n 0, 1) := by decide +kernel
theorem dX15_hearWord_14 : decode cX15_hearWord 14 = .ok (.iconst 1, 1) := by decide +kernel
theorem dX15_hearWord_15 : decode cX15_hearWord 15 = .ok (.invokevirtual 253, 3) := by decide +kernel
theorem dX15_hearWord_18 : decode cX15_hearWord 18 = .ok (.ireturn, 1) := by decide +kernel
theorem dX15_hearWord_19 : decode cX15_hearWord 19 = .ok (.iload_n 2, 1) := by decide +kernel
theorem dX15_hearWord_20 : decode cX15_hearWord 20 = .ok (.bipush (-39), 2) := by decide +kernel
theorem dX15_hearWord_22 : decode cX15_hearWord 22 = .ok (.bipush 39, 2) := by decide +kernel
theorem dX15_hearWord_24 : decode cX15_hearWord 24 = .ok (.invokestatic 65, 3) := by decide +kernel
theorem dX15_hearWord_27 : decode cX15_hearWord 27 = .ok (.ifCond .ne 9, 3) := by decide +kernel
theorem dX15_hearWord_30 : decode cX15_hearWord 30 = .ok (.aload_n 0, 1) := by decide +kernel
theorem dX15_hearWord_31 : decode cX15_hearWord 31 = .ok (.iconst 2, 1) := by decide +kernel
theorem dX15_hearWord_32 : decode cX15_hearWord 32 = .ok (.invokevirtual 253, 3) := by decide +kernel
theorem dX15_hearWord_35 : decode cX15_hearWord 35 = .ok (.ireturn, 1) := by decide +kernel
theorem dX15_hearWord_36 : decode cX15_hearWord 36 = .ok (.aload_n 0, 1) := by decide +kernel
theorem dX15_hearWord_37 : decode cX15_hearWord 37 = .ok (.getfield 48, 3) := by decide +kernel
theorem dX15_hearWord_40 : decode cX15_hearWord 40 = .ok (.getfield 270, 3) := by decide +kernel
theorem dX15_hearWord_43 : decode cX15_hearWord 43 = .ok (.bipush 8, 2) := by decide +kernel
theorem dX15_hearWord_45 : decode cX15_hearWord 45 = .ok (.aload_n 0, 1) := by decide +kernel
theorem dX15_hearWord_46 : decode cX15_hearWord 46 = .ok (.getfield 48, 3) := by decide +kernel
theorem dX15_hearWord_49 : decode cX15_hearWord 49 = .ok (.getfield 270, 3) := by decide +kernel
theorem dX15_hearWord_52 : decode cX15_hearWord 52 = .ok (.iload_n 1, 1) := by decide +kernel
theorem dX15_hearWord_53 : decode cX15_hearWord 53 = .ok (.iaload, 1) := by decide +kernel
theorem dX15_hearWord_54 : decode cX15_hearWord 54 = .ok (.iastore, 1) := by decide +kernel
theorem dX15_hearWord_55 : decode cX15_hearWord 55 = .ok (.iconst 0, 1) := by decide +kernel
theorem dX15_hearWord_56 : decode cX15_hearWord 56 = .ok (.istore_n 3, 1) := by decide +kernel
theorem dX15_hearWord_57 : decode cX15_hearWord 57 = .ok (.iload_n 3, 1) := by decide +kernel
theorem dX15_hearWord_58 : decode cX15_hearWord 58 = .ok (.aload_n 0, 1) := by decide +kernel
theorem dX15_hearWord_59 : decode cX15_hearWord 59 = .ok (.getfield 48, 3) := by decide +kernel
theorem dX15_hearWord_62 : decode cX15_hearWord 62 = .ok (.getfield 270, 3) := by decide +kernel
theorem dX15_hearWord_65 : decode cX15_hearWord 65 = .ok (.iload_n 1, 1) := by decide +kernel
theorem dX15_hearWord_66 : decode cX15_hearWord 66 = .ok (.iaload, 1) := by decide +kernel
theorem dX15_hearWord_67 : decode cX15_hearWord 67 = .ok (.if_icmp .ge 40, 3) := by decide +kernel
theorem dX15_hearWord_70 : decode cX15_hearWord 70 = .ok (.aload_n 0, 1) := by decide +kernel
theorem dX15_hearWord_71 : decode cX15_hearWord 71 = .ok (.getfield 48, 3) := by decide +kernel
theorem dX15_hearWord_74 : decode cX15_hearWord 74 = .ok (.getfield 271, 3) := by decide +kernel
theorem dX15_hearWord_77 : decode cX15_hearWord 77 = .ok (.sipush 192, 3) := by decide +kernel
theorem dX15_hearWord_80 : decode cX15_hearWord 80 = .ok (.iload_n 3, 1) := by decide +kernel
theorem dX15_hearWord_81 : decode cX15_hearWord 81 = .ok (.iadd, 1) := by decide +kernel
theorem dX15_hearWord_82 : decode cX15_hearWord 82 = .ok (.aload_n 0, 1) := by decide +kernel
theorem dX15_hearWord_83 : decode cX15_hearWord 83 = .ok (.getfield 48, 3) := by decide +kernel
theorem dX15_hearWord_86 : decode cX15_hearWord 86 = .ok (.getfield 271, 3) := by decide +kernel
theorem dX15_hearWord_89 : decode cX15_hearWord 89 = .ok (.bipush 24, 2) := by decide +kernel
theorem dX15_hearWord_91 : decode cX15_hearWord 91 = .ok (.iload_n 1, 1) := by decide +kernel
theorem dX15_hearWord_92 : decode cX15_hearWord 92 = .ok (.imul, 1) := by decide +kernel
theorem dX15_hearWord_93 : decode cX15_hearWord 93 = .ok (.iload_n 3, 1) := by decide +kernel
theorem dX15_hearWord_94 : decode cX15_hearWord 94 = .ok (.iadd, 1) := by decide +kernel
theorem dX15_hearWord_95 : decode cX15_hearWord 95 = .ok (.iaload, 1) := by decide +kernel
theorem dX15_hearWord_96 : decode cX15_hearWord 96 = .ok (.iload_n 2, 1) := by decide +kernel
theorem dX15_hearWord_97 : decode cX15_hearWord 97 = .ok (.invokestatic 324, 3) := by decide +kernel
theorem dX15_hearWord_100 : decode cX15_hearWord 100 = .ok (.iastore, 1) := by decide +kernel
theorem dX15_hearWord_101 : decode cX15_hearWord 101 = .ok (.iinc 3 1, 3) := by decide +kernel
theorem dX15_hearWord_104 : decode cX15_hearWord 104 = .ok (.goto (-47), 3) := by decide +kernel
theorem dX15_hearWord_107 : decode cX15_hearWord 107 = .ok (.aload_n 0, 1) := by decide +kernel
theorem dX15_hearWord_108 : decode cX15_hearWord 108 = .ok (.getfield 48, 3) := by decide +kernel
theorem dX15_hearWord_111 : decode cX15_hearWord 111 = .ok (.getfield 270, 3) := by decide +kernel
theorem dX15_hearWord_114 : decode cX15_hearWord 114 = .ok (.bipush 8, 2) := by decide +kernel
theorem dX15_hearWord_116 : decode cX15_hearWord 116 = .ok (.iaload, 1) := by decide +kernel
theorem dX15_hearWord_117 : decode cX15_hearWord 117 = .ok (.ireturn, 1) := by decide +kernel
theorem dX15_forget_0 : decode cX15_forget 0 = .ok (.aload_n 0, 1) := by decide +kernel
theorem dX15_forget_1 : decode cX15_forget 1 = .ok (.getfield 48, 3) := by decide +kernel
theorem dX15_forget_4 : decode cX15_forget 4 = .ok (.getfield 270, 3) := by decide +kernel
theorem dX15_forget_7 : decode cX15_forget 7 = .ok (.bipush 8, 2) := by decide +kernel
theorem dX15_forget_9 : decode cX15_forget 9 = .ok (.iaload, 1) := by decide +kernel
theorem dX15_forget_10 : decode cX15_forget 10 = .ok (.istore_n 1, 1) := by decide +kernel
theorem dX15_forget_11 : decode cX15_forget 11 = .ok (.aload_n 0, 1) := by decide +kernel
theorem dX15_forget_12 : decode cX15_forget 12 = .ok (.getfield 48, 3) := by decide +kernel
theorem dX15_forget_15 : decode cX15_forget 15 = .ok (.getfield 270, 3) := by decide +kernel
theorem dX15_forget_18 : decode cX15_forget 18 = .ok (.bipush 8, 2) := by decide +kernel
theorem dX15_forget_20 : decode cX15_forget 20 = .ok (.iconst 0, 1) := by decide +kernel
theorem dX15_forget_21 : decode cX15_forget 21 = .ok (.iastore, 1) := by decide +kernel
theorem dX15_forget_22 : decode cX15_forget 22 = .ok (.aload_n 0, 1) := by decide +kernel
theorem dX15_forget_23 : decode cX15_forget 23 = .ok (.iload_n 1, 1) := by decide +kernel
theorem dX15_forget_24 : decode cX15_forget 24 = .ok (.invokevirtual 267, 3) := by decide +kernel
theorem dX15_forget_27 : decode cX15_forget 27 = .ok (.ireturn, 1) := by decide +kernel
theorem dX15_turnPruned_0 : decode cX15_turnPruned 0 = .ok (.aload_n 0, 1) := by decide +kernel
theorem dX15_turnPruned_1 : decode cX15_turnPruned 1 = .ok (.iconst 0, 1) := by decide +kernel
theorem dX15_turnPruned_2 : decode cX15_turnPruned 2 = .ok (.putfield 62, 3) := by decide +kernel
theorem dX15_turnPruned_5 : decode cX15_turnPruned 5 = .ok (.aload_n 0, 1) := by decide +kernel
theorem dX15_turnPruned_6 : decode cX15_turnPruned 6 = .ok (.iload_n 1, 1) := by decide +kernel
theorem dX15_turnPruned_7 : decode cX15_turnPruned 7 = .ok (.invokevirtual 341, 3) := by decide +kernel
theorem dX15_turnPruned_10 : decode cX15_turnPruned 10 = .ok (.ifCond .ne 9, 3) := by decide +kernel
theorem dX15_turnPruned_13 : decode cX15_turnPruned 13 = .ok (.aload_n 0, 1) := by decide +kernel
theorem dX15_turnPruned_14 : decode cX15_turnPruned 14 = .ok (.iconst 1, 1) := by decide +kernel
theorem dX15_turnPruned_15 : decode cX15_turnPruned 15 = .ok (.invokevirtual 347, 3) := by decide +kernel
theorem dX15_turnPruned_18 : decode cX15_turnPruned 18 = .ok (.ireturn, 1) := by decide +kernel
theorem dX15_turnPruned_19 : decode cX15_turnPruned 19 = .ok (.aload_n 0, 1) := by decide +kernel
theorem dX15_turnPruned_20 : decode cX15_turnPruned 20 = .ok (.getfield 48, 3) := by decide +kernel
theorem dX15_turnPruned_23 : decode cX15_turnPruned 23 = .ok (.getfield 293, 3) := by decide +kernel
theorem dX15_turnPruned_26 : decode cX15_turnPruned 26 = .ok (.iload_n 1, 1) := by decide +kernel
theorem dX15_turnPruned_27 : decode cX15_turnPruned 27 = .ok (.iconst 1, 1) := by decide +kernel
theorem dX15_turnPruned_28 : decode cX15_turnPruned 28 = .ok (.aload_n 0, 1) := by decide +kernel
theorem dX15_turnPruned_29 : decode cX15_turnPruned 29 = .ok (.getfield 48, 3) := by decide +kernel
theorem dX15_turnPruned_32 : decode cX15_turnPruned 32 = .ok (.getfield 293, 3) := by decide +kernel
theorem dX15_turnPruned_35 : decode cX15_turnPruned 35 = .ok (.iload_n 1, 1) := by decide +kernel
theorem dX15_turnPruned_36 : decode cX15_turnPruned 36 = .ok (.iaload, 1) := by decide +kernel
theorem dX15_turnPruned_37 : decode cX15_turnPruned 37 = .ok (.isub, 1) := by decide +kernel
theorem dX15_turnPruned_38 : decode cX15_turnPruned 38 = .ok (.iastore, 1) := by decide +kernel
theorem dX15_turnPruned_39 : decode cX15_turnPruned 39 = .ok (.aload_n 0, 1) := by decide +kernel
theorem dX15_turnPruned_40 : decode cX15_turnPruned 40 = .ok (.getfield 48, 3) := by decide +kernel
theorem dX15_turnPruned_43 : decode cX15_turnPruned 43 = .ok (.getfield 293, 3) := by decide +kernel
theorem dX15_turnPruned_46 : decode cX15_turnPruned 46 = .ok (.iload_n 1, 1) := by decide +kernel
theorem dX15_turnPruned_47 : decode cX15_turnPruned 47 = .ok (.iaload, 1) := by decide +kernel
theorem dX15_turnPruned_48 : decode cX15_turnPruned 48 = .ok (.iconst 1, 1) := by decide +kernel
theorem dX15_turnPruned_49 : decode cX15_turnPruned 49 = .ok (.if_icmp .ne 7, 3) := by decide +kernel
theorem dX15_turnPruned_52 : decode cX15_turnPruned 52 = .ok (.iconst 1, 1) := by decide +kernel
theorem dX15_turnPruned_53 : decode cX15_turnPruned 53 = .ok (.goto 4, 3) := by decide +kernel
theorem dX15_turnPruned_56 : decode cX15_turnPruned 56 = .ok (.iconst 0, 1) := by decide +kernel
theorem dX15_turnPruned_57 : decode cX15_turnPruned 57 = .ok (.ireturn, 1) := by decide +kernel
theorem dX15_pruneNeedless_0 : decode cX15_pruneNeedless 0 = .ok (.iconst 0, 1) := by decide +kernel
theorem dX15_pruneNeedless_1 : decode cX15_pruneNeedless 1 = .ok (.istore_n 1, 1) := by decide +kernel
theorem dX15_pruneNeedless_2 : decode cX15_pruneNeedless 2 = .ok (.iconst 0, 1) := by decide +kernel
theorem dX15_pruneNeedless_3 : decode cX15_pruneNeedless 3 = .ok (.istore_n 2, 1) := by decide +kernel
theorem dX15_pruneNeedless_4 : decode cX15_pruneNeedless 4 = .ok (.iload_n 2, 1) := by decide +kernel
theorem dX15_pruneNeedless_5 : decode cX15_pruneNeedless 5 = .ok (.aload_n 0, 1) := by decide +kernel
theorem dX15_pruneNeedless_6 : decode cX15_pruneNeedless 6 = .ok (.getfield 35, 3) := by decide +kernel
theorem dX15_pruneNeedless_9 : decode cX15_pruneNeedless 9 = .ok (.getfield 147, 3) := by decide +kernel
theorem dX15_pruneNeedless_12 : decode cX15_pruneNeedless 12 = .ok (.if_icmp .ge 33, 3) := by decide +kernel
theorem dX15_pruneNeedless_15 : decode cX15_pruneNeedless 15 = .ok (.aload_n 0, 1) := by decide +kernel
theorem dX15_pruneNeedless_16 : decode cX15_pruneNeedless 16 = .ok (.iload_n 2, 1) := by decide +kernel
theorem dX15_pruneNeedless_17 : decode cX15_pruneNeedless 17 = .ok (.invokevirtual 350, 3) := by decide +kernel
theorem dX15_pruneNeedless_20 : decode cX15_pruneNeedless 20 = .ok (.ifCond .ne 6, 3) := by decide +kernel
theorem dX15_pruneNeedless_23 : decode cX15_pruneNeedless 23 = .ok (.goto 16, 3) := by decide +kernel
theorem dX15_pruneNeedless_26 : decode cX15_pruneNeedless 26 = .ok (.aload_n 0, 1) := by decide +kernel
theorem dX15_pruneNeedless_27 : decode cX15_pruneNeedless 27 = .ok (.getfield 48, 3) := by decide +kernel
theorem dX15_pruneNeedless_30 : decode cX15_pruneNeedless 30 = .ok (.getfield 293, 3) := by decide +kernel
theorem dX15_pruneNeedless_33 : decode cX15_pruneNeedless 33 = .ok (.iload_n 2, 1) := by decide +kernel
theorem dX15_pruneNeedless_34 : decode cX15_pruneNeedless 34 = .ok (.iconst 1, 1) := by decide +kernel
theorem dX15_pruneNeedless_35 : decode cX15_pruneNeedless 35 = .ok (.iastore, 1) := by decide +kernel
theorem dX15_pruneNeedless_36 : decode cX15_pruneNeedless 36 = .ok (.iinc 1 1, 3) := by decide +kernel
theorem dX15_pruneNeedless_39 : decode cX15_pruneNeedless 39 = .ok (.iinc 2 1, 3) := by decide +kernel
theorem dX15_pruneNeedless_42 : decode cX15_pruneNeedless 42 = .ok (.goto (-38), 3) := by decide +kernel
theorem dX15_pruneNeedless_45 : decode cX15_pruneNeedless 45 = .ok (.aload_n 0, 1) := by decide +kernel
theorem dX15_pruneNeedless_46 : decode cX15_pruneNeedless 46 = .ok (.iload_n 1, 1) := by decide +kernel
theorem dX15_pruneNeedless_47 : decode cX15_pruneNeedless 47 = .ok (.invokevirtual 267, 3) := by decide +kernel
theorem dX15_pruneNeedless_50 : decode cX15_pruneNeedless 50 = .ok (.ireturn, 1) := by decide +kernel
theorem dX15_passLessons_0 : decode cX15_passLessons 0 = .ok (.aload_n 0, 1) := by decide +kernel
theorem dX15_passLessons_1 : decode cX15_passLessons 1 = .ok (.iconst 0, 1) := by decide +kernel
theorem dX15_passLessons_2 : decode cX15_passLessons 2 = .ok (.putfield 62, 3) := by decide +kernel
theorem dX15_passLessons_5 : decode cX15_passLessons 5 = .ok (.iload_n 1, 1) := by decide +kernel
theorem dX15_passLessons_6 : decode cX15_passLessons 6 = .ok (.iconst 1, 1) := by decide +kernel
theorem dX15_passLessons_7 : decode cX15_passLessons 7 = .ok (.bipush 20, 2) := by decide +kernel
theorem dX15_passLessons_9 : decode cX15_passLessons 9 = .ok (.invokestatic 65, 3) := by decide +kernel
theorem dX15_passLessons_12 : decode cX15_passLessons 12 = .ok (.ifCond .ne 9, 3) := by decide +kernel
theorem dX15_passLessons_15 : decode cX15_passLessons 15 = .ok (.aload_n 0, 1) := by decide +kernel
theorem dX15_passLessons_16 : decode cX15_passLessons 16 = .ok (.iconst 1, 1) := by decide +kernel
theorem dX15_passLessons_17 : decode cX15_passLessons 17 = .ok (.invokevirtual 253, 3) := by decide +kernel
theorem dX15_passLessons_20 : decode cX15_passLessons 20 = .ok (.ireturn, 1) := by decide +kernel
theorem dX15_passLessons_21 : decode cX15_passLessons 21 = .ok (.iconst 0, 1) := by decide +kernel
theorem dX15_passLessons_22 : decode cX15_passLessons 22 = .ok (.istore_n 2, 1) := by decide +kernel
theorem dX15_passLessons_23 : decode cX15_passLessons 23 = .ok (.iconst 0, 1) := by decide +kernel
theorem dX15_passLessons_24 : decode cX15_passLessons 24 = .ok (.istore_n 3, 1) := by decide +kernel
theorem dX15_passLessons_25 : decode cX15_passLessons 25 = .ok (.iload_n 3, 1) := by decide +kernel
theorem dX15_passLessons_26 : decode cX15_passLessons 26 = .ok (.iload_n 1, 1) := by decide +kernel
theorem dX15_passLessons_27 : decode cX15_passLessons 27 = .ok (.if_icmp .ge 20, 3) := by decide +kernel
theorem dX15_passLessons_30 : decode cX15_passLessons 30 = .ok (.iload_n 2, 1) := by decide +kernel
theorem dX15_passLessons_31 : decode cX15_passLessons 31 = .ok (.aload_n 0, 1) := by decide +kernel
theorem dX15_passLessons_32 : decode cX15_passLessons 32 = .ok (.aload_n 0, 1) := by decide +kernel
theorem dX15_passLessons_33 : decode cX15_passLessons 33 = .ok (.getfield 48, 3) := by decide +kernel
theorem dX15_passLessons_36 : decode cX15_passLessons 36 = .ok (.invokevirtual 356, 3) := by decide +kernel
theorem dX15_passLessons_39 : decode cX15_passLessons 39 = .ok (.iadd, 1) := by decide +kernel
theorem dX15_passLessons_40 : decode cX15_passLessons 40 = .ok (.istore_n 2, 1) := by decide +kernel
theorem dX15_passLessons_41 : decode cX15_passLessons 41 = .ok (.iinc 3 1, 3) := by decide +kernel
theorem dX15_passLessons_44 : decode cX15_passLessons 44 = .ok (.goto (-19), 3) := by decide +kernel
theorem dX15_passLessons_47 : decode cX15_passLessons 47 = .ok (.iload_n 2, 1) := by decide +kernel
theorem dX15_passLessons_48 : decode cX15_passLessons 48 = .ok (.ireturn, 1) := by decide +kernel
theorem dX15_keptAfter_0 : decode cX15_keptAfter 0 = .ok (.aload_n 0, 1) := by decide +kernel
theorem dX15_keptAfter_1 : decode cX15_keptAfter 1 = .ok (.iconst 0, 1) := by decide +kernel
theorem dX15_keptAfter_2 : decode cX15_keptAfter 2 = .ok (.putfield 62, 3) := by decide +kernel
theorem dX15_keptAfter_5 : decode cX15_keptAfter 5 = .ok (.iload_n 1, 1) := by decide +kernel
theorem dX15_keptAfter_6 : decode cX15_keptAfter 6 = .ok (.iconst 1, 1) := by decide +kernel
theorem dX15_keptAfter_7 : decode cX15_keptAfter 7 = .ok (.bipush 20, 2) := by decide +kernel
theorem dX15_keptAfter_9 : decode cX15_keptAfter 9 = .ok (.invokestatic 65, 3) := by decide +kernel
theorem dX15_keptAfter_12 : decode cX15_keptAfter 12 = .ok (.ifCond .ne 9, 3) := by decide +kernel
theorem dX15_keptAfter_15 : decode cX15_keptAfter 15 = .ok (.aload_n 0, 1) := by decide +kernel
theorem dX15_keptAfter_16 : decode cX15_keptAfter 16 = .ok (.iconst 1, 1) := by decide +kernel
theorem dX15_keptAfter_17 : decode cX15_keptAfter 17 = .ok (.invokevirtual 253, 3) := by decide +kernel
theorem dX15_keptAfter_20 : decode cX15_keptAfter 20 = .ok (.ireturn, 1) := by decide +kernel
theorem dX15_keptAfter_21 : decode cX15_keptAfter 21 = .ok (.aload_n 0, 1) := by decide +kernel
theorem dX15_keptAfter_22 : decode cX15_keptAfter 22 = .ok (.getfield 52, 3) := by decide +kernel
theorem dX15_keptAfter_25 : decode cX15_keptAfter 25 = .ok (.aload_n 0, 1) := by decide +kernel
theorem dX15_keptAfter_26 : decode cX15_keptAfter 26 = .ok (.getfield 48, 3) := by decide +kernel
theorem dX15_keptAfter_29 : decode cX15_keptAfter 29 = .ok (.invokevirtual 359, 3) := by decide +kernel
theorem dX15_keptAfter_32 : decode cX15_keptAfter 32 = .ok (.iconst 0, 1) := by decide +kernel
theorem dX15_keptAfter_33 : decode cX15_keptAfter 33 = .ok (.istore_n 2, 1) := by decide +kernel
theorem dX15_keptAfter_34 : decode cX15_keptAfter 34 = .ok (.iload_n 2, 1) := by decide +kernel
theorem dX15_keptAfter_35 : decode cX15_keptAfter 35 = .ok (.iload_n 1, 1) := by decide +kernel
theorem dX15_keptAfter_36 : decode cX15_keptAfter 36 = .ok (.if_icmp .ge 18, 3) := by decide +kernel
theorem dX15_keptAfter_39 : decode cX15_keptAfter 39 = .ok (.aload_n 0, 1) := by decide +kernel
theorem dX15_keptAfter_40 : decode cX15_keptAfter 40 = .ok (.aload_n 0, 1) := by decide +kernel
theorem dX15_keptAfter_41 : decode cX15_keptAfter 41 = .ok (.getfield 52, 3) := by decide +kernel
theorem dX15_keptAfter_44 : decode cX15_keptAfter 44 = .ok (.invokevirtual 356, 3) := by decide +kernel
theorem dX15_keptAfter_47 : decode cX15_keptAfter 47 = .ok (.pop, 1) := by decide +kernel
theorem dX15_keptAfter_48 : decode cX15_keptAfter 48 = .ok (.iinc 2 1, 3) := by decide +kernel
theorem dX15_keptAfter_51 : decode cX15_keptAfter 51 = .ok (.goto (-17), 3) := by decide +kernel
theorem dX15_keptAfter_54 : decode cX15_keptAfter 54 = .ok (.aload_n 0, 1) := by decide +kernel
theorem dX15_keptAfter_55 : decode cX15_keptAfter 55 = .ok (.aload_n 0, 1) := by decide +kernel
theorem dX15_keptAfter_56 : decode cX15_keptAfter 56 = .ok (.getfield 52, 3) := by decide +kernel
theorem dX15_keptAfter_59 : decode cX15_keptAfter 59 = .ok (.invokevirtual 306, 3) := by decide +kernel
theorem dX15_keptAfter_62 : decode cX15_keptAfter 62 = .ok (.ireturn, 1) := by decide +kernel
theorem dX15_lessonsUntilMeant_0 : decode cX15_lessonsUntilMeant 0 = .ok (.aload_n 0, 1) := by decide +kernel
theorem dX15_lessonsUntilMeant_1 : decode cX15_lessonsUntilMeant 1 = .ok (.iconst 0, 1) := by decide +kernel
theorem dX15_lessonsUntilMeant_2 : decode cX15_lessonsUntilMeant 2 = .ok (.putfield 62, 3) := by decide +kernel
theorem dX15_lessonsUntilMeant_5 : decode cX15_lessonsUntilMeant 5 = .ok (.aload_n 0, 1) := by decide +kernel
theorem dX15_lessonsUntilMeant_6 : decode cX15_lessonsUntilMeant 6 = .ok (.iload_n 1, 1) := by decide +kernel
theorem dX15_lessonsUntilMeant_7 : decode cX15_lessonsUntilMeant 7 = .ok (.invokevirtual 341, 3) := by decide +kernel
theorem dX15_lessonsUntilMeant_10 : decode cX15_lessonsUntilMeant 10 = .ok (.ifCond .ne 9, 3) := by decide +kernel
theorem dX15_lessonsUntilMeant_13 : decode cX15_lessonsUntilMeant 13 = .ok (.aload_n 0, 1) := by decide +kernel
theorem dX15_lessonsUntilMeant_14 : decode cX15_lessonsUntilMeant 14 = .ok (.iconst 1, 1) := by decide +kernel
theorem dX15_lessonsUntilMeant_15 : decode cX15_lessonsUntilMeant 15 = .ok (.invokevirtual 253, 3) := by decide +kernel
theorem dX15_lessonsUntilMeant_18 : decode cX15_lessonsUntilMeant 18 = .ok (.ireturn, 1) := by decide +kernel
theorem dX15_lessonsUntilMeant_19 : decode cX15_lessonsUntilMeant 19 = .ok (.aload_n 0, 1) := by decide +kernel
theorem dX15_lessonsUntilMeant_20 : decode cX15_lessonsUntilMeant 20 = .ok (.getfield 52, 3) := by decide +kernel
theorem dX15_lessonsUntilMeant_23 : decode cX15_lessonsUntilMeant 23 = .ok (.aload_n 0, 1) := by decide +kernel
theorem dX15_lessonsUntilMeant_24 : decode cX15_lessonsUntilMeant 24 = .ok (.getfield 48, 3) := by decide +kernel
theorem dX15_lessonsUntilMeant_27 : decode cX15_lessonsUntilMeant 27 = .ok (.invokevirtual 359, 3) := by decide +kernel
theorem dX15_lessonsUntilMeant_30 : decode cX15_lessonsUntilMeant 30 = .ok (.iconst 0, 1) := by decide +kernel
theorem dX15_lessonsUntilMeant_31 : decode cX15_lessonsUntilMeant 31 = .ok (.istore_n 2, 1) := by decide +kernel
theorem dX15_lessonsUntilMeant_32 : decode cX15_lessonsUntilMeant 32 = .ok (.iload_n 2, 1) := by decide +kernel
theorem dX15_lessonsUntilMeant_33 : decode cX15_lessonsUntilMeant 33 = .ok (.bipush 20, 2) := by decide +kernel
theorem dX15_lessonsUntilMeant_35 : decode cX15_lessonsUntilMeant 35 = .ok (.if_icmp .gt 33, 3) := by decide +kernel
theorem dX15_lessonsUntilMeant_38 : decode cX15_lessonsUntilMeant 38 = .ok (.aload_n 0, 1) := by decide +kernel
theorem dX15_lessonsUntilMeant_39 : decode cX15_lessonsUntilMeant 39 = .ok (.aload_n 0, 1) := by decide +kernel
theorem dX15_lessonsUntilMeant_40 : decode cX15_lessonsUntilMeant 40 = .ok (.getfield 52, 3) := by decide +kernel
theorem dX15_lessonsUntilMeant_43 : decode cX15_lessonsUntilMeant 43 = .ok (.iconst (-1), 1) := by decide +kernel
theorem dX15_lessonsUntilMeant_44 : decode cX15_lessonsUntilMeant 44 = .ok (.invokevirtual 310, 3) := by decide +kernel
theorem dX15_lessonsUntilMeant_47 : decode cX15_lessonsUntilMeant 47 = .ok (.iload_n 1, 1) := by decide +kernel
theorem dX15_lessonsUntilMeant_48 : decode cX15_lessonsUntilMeant 48 = .ok (.if_icmp .ne 5, 3) := by decide +kernel
theorem dX15_lessonsUntilMeant_51 : decode cX15_lessonsUntilMeant 51 = .ok (.iload_n 2, 1) := by decide +kernel
theorem dX15_lessonsUntilMeant_52 : decode cX15_lessonsUntilMeant 52 = .ok (.ireturn, 1) := by decide +kernel
theorem dX15_lessonsUntilMeant_53 : decode cX15_lessonsUntilMeant 53 = .ok (.aload_n 0, 1) := by decide +kernel
theorem dX15_lessonsUntilMeant_54 : decode cX15_lessonsUntilMeant 54 = .ok (.aload_n 0, 1) := by decide +kernel
theorem dX15_lessonsUntilMeant_55 : decode cX15_lessonsUntilMeant 55 = .ok (.getfield 52, 3) := by decide +kernel
theorem dX15_lessonsUntilMeant_58 : decode cX15_lessonsUntilMeant 58 = .ok (.invokevirtual 356, 3) := by decide +kernel
theorem dX15_lessonsUntilMeant_61 : decode cX15_lessonsUntilMeant 61 = .ok (.pop, 1) := by decide +kernel
theorem dX15_lessonsUntilMeant_62 : decode cX15_lessonsUntilMeant 62 = .ok (.iinc 2 1, 3) := by decide +kernel
theorem dX15_lessonsUntilMeant_65 : decode cX15_lessonsUntilMeant 65 = .ok (.goto (-33), 3) := by decide +kernel
theorem dX15_lessonsUntilMeant_68 : decode cX15_lessonsUntilMeant 68 = .ok (.iconst (-1), 1) := by decide +kernel
theorem dX15_lessonsUntilMeant_69 : decode cX15_lessonsUntilMeant 69 = .ok (.ireturn, 1) := by decide +kernel
theorem dX15_bestShift_0 : decode cX15_bestShift 0 = .ok (.aload_n 0, 1) := by decide +kernel
theorem dX15_bestShift_1 : decode cX15_bestShift 1 = .ok (.iload_n 1, 1) := by decide +kernel
theorem dX15_bestShift_2 : decode cX15_bestShift 2 = .ok (.invokevirtual 353, 3) := by decide +kernel
theorem dX15_bestShift_5 : decode cX15_bestShift 5 = .ok (.ifCond .ne 5, 3) := by decide +kernel
theorem dX15_bestShift_8 : decode cX15_bestShift 8 = .ok (.iconst 0, 1) := by decide +kernel
theorem dX15_bestShift_9 : decode cX15_bestShift 9 = .ok (.ireturn, 1) := by decide +kernel
theorem dX15_bestShift_10 : decode cX15_bestShift 10 = .ok (.iconst 0, 1) := by decide +kernel
theorem dX15_bestShift_11 : decode cX15_bestShift 11 = .ok (.istore_n 2, 1) := by decide +kernel
theorem dX15_bestShift_12 : decode cX15_bestShift 12 = .ok (.ldc_w 284, 3) := by decide +kernel
theorem dX15_bestShift_15 : decode cX15_bestShift 15 = .ok (.istore_n 3, 1) := by decide +kernel
theorem dX15_bestShift_16 : decode cX15_bestShift 16 = .ok (.aload_n 0, 1) := by decide +kernel
theorem dX15_bestShift_17 : decode cX15_bestShift 17 = .ok (.getfield 48, 3) := by decide +kernel
theorem dX15_bestShift_20 : decode cX15_bestShift 20 = .ok (.getfield 270, 3) := by decide +kernel
theorem dX15_bestShift_23 : decode cX15_bestShift 23 = .ok (.bipush 9, 2) := by decide +kernel
theorem dX15_bestShift_25 : decode cX15_bestShift 25 = .ok (.aload_n 0, 1) := by decide +kernel
theorem dX15_bestShift_26 : decode cX15_bestShift 26 = .ok (.getfield 48, 3) := by decide +kernel
theorem dX15_bestShift_29 : decode cX15_bestShift 29 = .ok (.getfield 270, 3) := by decide +kernel
theorem dX15_bestShift_32 : decode cX15_bestShift 32 = .ok (.bipush 8, 2) := by decide +kernel
theorem dX15_bestShift_34 : decode cX15_bestShift 34 = .ok (.iaload, 1) := by decide +kernel
theorem dX15_bestShift_35 : decode cX15_bestShift 35 = .ok (.iastore, 1) := by decide +kernel
theorem dX15_bestShift_36 : decode cX15_bestShift 36 = .ok (.iconst 0, 1) := by decide +kernel
theorem dX15_bestShift_37 : decode cX15_bestShift 37 = .ok (.istore 4, 2) := by decide +kernel
theorem dX15_bestShift_39 : decode cX15_bestShift 39 = .ok (.iload 4, 2) := by decide +kernel
theorem dX15_bestShift_41 : decode cX15_bestShift 41 = .ok (.bipush 39, 2) := by decide +kernel
theorem dX15_bestShift_43 : decode cX15_bestShift 43 = .ok (.if_icmp .gt 115, 3) := by decide +kernel
theorem dX15_bestShift_46 : decode cX15_bestShift 46 = .ok (.iconst 1, 1) := by decide +kernel
theorem dX15_bestShift_47 : decode cX15_bestShift 47 = .ok (.istore 5, 2) := by decide +kernel
theorem dX15_bestShift_49 : decode cX15_bestShift 49 = .ok (.iload 5, 2) := by decide +kernel
theorem dX15_bestShift_51 : decode cX15_bestShift 51 = .ok (.iconst (-1), 1) := by decide +kernel
theorem dX15_bestShift_52 : decode cX15_bestShift 52 = .ok (.if_icmp .lt 100, 3) := by decide +kernel
theorem dX15_bestShift_55 : decode cX15_bestShift 55 = .ok (.iconst 0, 1) := by decide +kernel
theorem dX15_bestShift_56 : decode cX15_bestShift 56 = .ok (.istore 6, 2) := by decide +kernel
theorem dX15_bestShift_58 : decode cX15_bestShift 58 = .ok (.iload 6, 2) := by decide +kernel
theorem dX15_bestShift_60 : decode cX15_bestShift 60 = .ok (.aload_n 0, 1) := by decide +kernel
theorem dX15_bestShift_61 : decode cX15_bestShift 61 = .ok (.getfield 48, 3) := by decide +kernel
theorem dX15_bestShift_64 : decode cX15_bestShift 64 = .ok (.getfield 270, 3) := by decide +kernel
theorem dX15_bestShift_67 : decode cX15_bestShift 67 = .ok (.bipush 8, 2) := by decide +kernel
theorem dX15_bestShift_69 : decode cX15_bestShift 69 = .ok (.iaload, 1) := by decide +kernel
theorem dX15_bestShift_70 : decode cX15_bestShift 70 = .ok (.if_icmp .ge 45, 3) := by decide +kernel
theorem dX15_bestShift_73 : decode cX15_bestShift 73 = .ok (.aload_n 0, 1) := by decide +kernel
theorem dX15_bestShift_74 : decode cX15_bestShift 74 = .ok (.getfield 48, 3) := by decide +kernel
theorem dX15_bestShift_77 : decode cX15_bestShift 77 = .ok (.getfield 271, 3) := by decide +kernel
theorem dX15_bestShift_80 : decode cX15_bestShift 80 = .ok (.sipush 216, 3) := by decide +kernel
theorem dX15_bestShift_83 : decode cX15_bestShift 83 = .ok (.iload 6, 2) := by decide +kernel
theorem dX15_bestShift_85 : decode cX15_bestShift 85 = .ok (.iadd, 1) := by decide +kernel
theorem dX15_bestShift_86 : decode cX15_bestShift 86 = .ok (.aload_n 0, 1) := by decide +kernel
theorem dX15_bestShift_87 : decode cX15_bestShift 87 = .ok (.getfield 48, 3) := by decide +kernel
theorem dX15_bestShift_90 : decode cX15_bestShift 90 = .ok (.getfield 271, 3) := by decide +kernel
theorem dX15_bestShift_93 : decode cX15_bestShift 93 = .ok (.sipush 192, 3) := by decide +kernel
theorem dX15_bestShift_96 : decode cX15_bestShift 96 = .ok (.iload 6, 2) := by decide +kernel
theorem dX15_bestShift_98 : decode cX15_bestShift 98 = .ok (.iadd, 1) := by decide +kernel
theorem dX15_bestShift_99 : decode cX15_bestShift 99 = .ok (.iaload, 1) := by decide +kernel
theorem dX15_bestShift_100 : decode cX15_bestShift 100 = .ok (.iload 5, 2) := by decide +kernel
theorem dX15_bestShift_102 : decode cX15_bestShift 102 = .ok (.iload 4, 2) := by decide +kernel
theorem dX15_bestShift_104 : decode cX15_bestShift 104 = .ok (.imul, 1) := by decide +kernel
theorem dX15_bestShift_105 : decode cX15_bestShift 105 = .ok (.invokestatic 324, 3) := by decide +kernel
theorem dX15_bestShift_108 : decode cX15_bestShift 108 = .ok (.iastore, 1) := by decide +kernel
theorem dX15_bestShift_109 : decode cX15_bestShift 109 = .ok (.iinc 6 1, 3) := by decide +kernel
theorem dX15_bestShift_112 : decode cX15_bestShift 112 = .ok (.goto (-54), 3) := by decide +kernel
theorem dX15_bestShift_115 : decode cX15_bestShift 115 = .ok (.aload_n 0, 1) := by decide +kernel
theorem dX15_bestShift_116 : decode cX15_bestShift 116 = .ok (.aload_n 0, 1) := by decide +kernel
theorem dX15_bestShift_117 : decode cX15_bestShift 117 = .ok (.getfield 48, 3) := by decide +kernel
theorem dX15_bestShift_120 : decode cX15_bestShift 120 = .ok (.iload_n 1, 1) := by decide +kernel
theorem dX15_bestShift_121 : decode cX15_bestShift 121 = .ok (.bipush 9, 2) := by decide +kernel
theorem dX15_bestShift_123 : decode cX15_bestShift 123 = .ok (.invokevirtual 296, 3) := by decide +kernel
theorem dX15_bestShift_126 : decode cX15_bestShift 126 = .ok (.istore 6, 2) := by decide +kernel
theorem dX15_bestShift_128 : decode cX15_bestShift 128 = .ok (.iload 6, 2) := by decide +kernel
theorem dX15_bestShift_130 : decode cX15_bestShift 130 = .ok (.iload_n 3, 1) := by decide +kernel
theorem dX15_bestShift_131 : decode cX15_bestShift 131 = .ok (.if_icmp .lt 6, 3) := by decide +kernel
theorem dX15_bestShift_134 : decode cX15_bestShift 134 = .ok (.goto 12, 3) := by decide +kernel
theorem dX15_bestShift_137 : decode cX15_bestShift 137 = .ok (.iload 6, 2) := by decide +kernel
theorem dX15_bestShift_139 : decode cX15_bestShift 139 = .ok (.istore_n 3, 1) := by decide +kernel
theorem dX15_bestShift_140 : decode cX15_bestShift 140 = .ok (.iload 5, 2) := by decide +kernel
theorem dX15_bestShift_142 : decode cX15_bestShift 142 = .ok (.iload 4, 2) := by decide +kernel
theorem dX15_bestShift_144 : decode cX15_bestShift 144 = .ok (.imul, 1) := by decide +kernel
theorem dX15_bestShift_145 : decode cX15_bestShift 145 = .ok (.istore_n 2, 1) := by decide +kernel
theorem dX15_bestShift_146 : decode cX15_bestShift 146 = .ok (.iinc 5 (-2), 3) := by decide +kernel
theorem dX15_bestShift_149 : decode cX15_bestShift 149 = .ok (.goto (-100), 3) := by decide +kernel
theorem dX15_bestShift_152 : decode cX15_bestShift 152 = .ok (.iinc 4 1, 3) := by decide +kernel
theorem dX15_bestShift_155 : decode cX15_bestShift 155 = .ok (.goto (-116), 3) := by decide +kernel
theorem dX15_bestShift_158 : decode cX15_bestShift 158 = .ok (.iload_n 2, 1) := by decide +kernel
theorem dX15_bestShift_159 : decode cX15_bestShift 159 = .ok (.ireturn, 1) := by decide +kernel
theorem dX15_meanLength_0 : decode cX15_meanLength 0 = .ok (.aload_n 0, 1) := by decide +kernel
theorem dX15_meanLength_1 : decode cX15_meanLength 1 = .ok (.iconst 0, 1) := by decide +kernel
theorem dX15_meanLength_2 : decode cX15_meanLength 2 = .ok (.putfield 62, 3) := by decide +kernel
theorem dX15_meanLength_5 : decode cX15_meanLength 5 = .ok (.iconst 0, 1) := by decide +kernel
theorem dX15_meanLength_6 : decode cX15_meanLength 6 = .ok (.istore_n 1, 1) := by decide +kernel
theorem dX15_meanLength_7 : decode cX15_meanLength 7 = .ok (.iconst 0, 1) := by decide +kernel
theorem dX15_meanLength_8 : decode cX15_meanLength 8 = .ok (.istore_n 2, 1) := by decide +kernel
theorem dX15_meanLength_9 : decode cX15_meanLength 9 = .ok (.iload_n 2, 1) := by decide +kernel
theorem dX15_meanLength_10 : decode cX15_meanLength 10 = .ok (.aload_n 0, 1) := by decide +kernel
theorem dX15_meanLength_11 : decode cX15_meanLength 11 = .ok (.getfield 35, 3) := by decide +kernel
theorem dX15_meanLength_14 : decode cX15_meanLength 14 = .ok (.getfield 147, 3) := by decide +kernel
theorem dX15_meanLength_17 : decode cX15_meanLength 17 = .ok (.if_icmp .ge 21, 3) := by decide +kernel
theorem dX15_meanLength_20 : decode cX15_meanLength 20 = .ok (.iload_n 1, 1) := by decide +kernel
theorem dX15_meanLength_21 : decode cX15_meanLength 21 = .ok (.aload_n 0, 1) := by decide +kernel
theorem dX15_meanLength_22 : decode cX15_meanLength 22 = .ok (.getfield 48, 3) := by decide +kernel
theorem dX15_meanLength_25 : decode cX15_meanLength 25 = .ok (.getfield 270, 3) := by decide +kernel
theorem dX15_meanLength_28 : decode cX15_meanLength 28 = .ok (.iload_n 2, 1) := by decide +kernel
theorem dX15_meanLength_29 : decode cX15_meanLength 29 = .ok (.iaload, 1) := by decide +kernel
theorem dX15_meanLength_30 : decode cX15_meanLength 30 = .ok (.iadd, 1) := by decide +kernel
theorem dX15_meanLength_31 : decode cX15_meanLength 31 = .ok (.istore_n 1, 1) := by decide +kernel
theorem dX15_meanLength_32 : decode cX15_meanLength 32 = .ok (.iinc 2 1, 3) := by decide +kernel
theorem dX15_meanLength_35 : decode cX15_meanLength 35 = .ok (.goto (-26), 3) := by decide +kernel
theorem dX15_meanLength_38 : decode cX15_meanLength 38 = .ok (.aload_n 0, 1) := by decide +kernel
theorem dX15_meanLength_39 : decode cX15_meanLength 39 = .ok (.getfield 35, 3) := by decide +kernel
theorem dX15_meanLength_42 : decode cX15_meanLength 42 = .ok (.getfield 147, 3) := by decide +kernel
theorem dX15_meanLength_45 : decode cX15_meanLength 45 = .ok (.ifCond .ne 7, 3) := by decide +kernel
theorem dX15_meanLength_48 : decode cX15_meanLength 48 = .ok (.dconst 0, 1) := by decide +kernel
theorem dX15_meanLength_49 : decode cX15_meanLength 49 = .ok (.goto 14, 3) := by decide +kernel
theorem dX15_meanLength_52 : decode cX15_meanLength 52 = .ok (.iload_n 1, 1) := by decide +kernel
theorem dX15_meanLength_53 : decode cX15_meanLength 53 = .ok (.i2d, 1) := by decide +kernel
theorem dX15_meanLength_54 : decode cX15_meanLength 54 = .ok (.aload_n 0, 1) := by decide +kernel
theorem dX15_meanLength_55 : decode cX15_meanLength 55 = .ok (.getfield 35, 3) := by decide +kernel
theorem dX15_meanLength_58 : decode cX15_meanLength 58 = .ok (.getfield 147, 3) := by decide +kernel
theorem dX15_meanLength_61 : decode cX15_meanLength 61 = .ok (.i2d, 1) := by decide +kernel
theorem dX15_meanLength_62 : decode cX15_meanLength 62 = .ok (.ddiv, 1) := by decide +kernel
theorem dX15_meanLength_63 : decode cX15_meanLength 63 = .ok (.dreturn, 1) := by decide +kernel
theorem dX15_digest_0 : decode cX15_digest 0 = .ok (.bipush 7, 2) := by decide +kernel
theorem dX15_digest_2 : decode cX15_digest 2 = .ok (.newarray .int, 2) := by decide +kernel
theorem dX15_digest_4 : decode cX15_digest 4 = .ok (.dup, 1) := by decide +kernel
theorem dX15_digest_5 : decode cX15_digest 5 = .ok (.iconst 0, 1) := by decide +kernel
theorem dX15_digest_6 : decode cX15_digest 6 = .ok (.aload_n 0, 1) := by decide +kernel
theorem dX15_digest_7 : decode cX15_digest 7 = .ok (.getfield 35, 3) := by decide +kernel
theorem dX15_digest_10 : decode cX15_digest 10 = .ok (.getfield 147, 3) := by decide +kernel
theorem dX15_digest_13 : decode cX15_digest 13 = .ok (.iastore, 1) := by decide +kernel
theorem dX15_digest_14 : decode cX15_digest 14 = .ok (.dup, 1) := by decide +kernel
theorem dX15_digest_15 : decode cX15_digest 15 = .ok (.iconst 1, 1) := by decide +kernel
theorem dX15_digest_16 : decode cX15_digest 16 = .ok (.aload_n 0, 1) := by decide +kernel
theorem dX15_digest_17 : decode cX15_digest 17 = .ok (.aload_n 0, 1) := by decide +kernel
theorem dX15_digest_18 : decode cX15_digest 18 = .ok (.getfield 48, 3) := by decide +kernel
theorem dX15_digest_21 : decode cX15_digest 21 = .ok (.invokevirtual 306, 3) := by decide +kernel
theorem dX15_digest_24 : decode cX15_digest 24 = .ok (.iastore, 1) := by decide +kernel
theorem dX15_digest_25 : decode cX15_digest 25 = .ok (.dup, 1) := by decide +kernel
theorem dX15_digest_26 : decode cX15_digest 26 = .ok (.iconst 2, 1) := by decide +kernel
theorem dX15_digest_27 : decode cX15_digest 27 = .ok (.aload_n 0, 1) := by decide +kernel
theorem dX15_digest_28 : decode cX15_digest 28 = .ok (.getfield 35, 3) := by decide +kernel
theorem dX15_digest_31 : decode cX15_digest 31 = .ok (.getfield 223, 3) := by decide +kernel
theorem dX15_digest_34 : decode cX15_digest 34 = .ok (.iastore, 1) := by decide +kernel
theorem dX15_digest_35 : decode cX15_digest 35 = .ok (.dup, 1) := by decide +kernel
theorem dX15_digest_36 : decode cX15_digest 36 = .ok (.iconst 3, 1) := by decide +kernel
theorem dX15_digest_37 : decode cX15_digest 37 = .ok (.aload_n 0, 1) := by decide +kernel
theorem dX15_digest_38 : decode cX15_digest 38 = .ok (.getfield 48, 3) := by decide +kernel
theorem dX15_digest_41 : decode cX15_digest 41 = .ok (.getfield 303, 3) := by decide +kernel
theorem dX15_digest_44 : decode cX15_digest 44 = .ok (.iastore, 1) := by decide +kernel
theorem dX15_digest_45 : decode cX15_digest 45 = .ok (.dup, 1) := by decide +kernel
theorem dX15_digest_46 : decode cX15_digest 46 = .ok (.iconst 4, 1) := by decide +kernel
theorem dX15_digest_47 : decode cX15_digest 47 = .ok (.aload_n 0, 1) := by decide +kernel
theorem dX15_digest_48 : decode cX15_digest 48 = .ok (.getfield 48, 3) := by decide +kernel
theorem dX15_digest_51 : decode cX15_digest 51 = .ok (.getfield 338, 3) := by decide +kernel
theorem dX15_digest_54 : decode cX15_digest 54 = .ok (.iastore, 1) := by decide +kernel
theorem dX15_digest_55 : decode cX15_digest 55 = .ok (.dup, 1) := by decide +kernel
theorem dX15_digest_56 : decode cX15_digest 56 = .ok (.iconst 5, 1) := by decide +kernel
theorem dX15_digest_57 : decode cX15_digest 57 = .ok (.aload_n 0, 1) := by decide +kernel
theorem dX15_digest_58 : decode cX15_digest 58 = .ok (.getfield 48, 3) := by decide +kernel
theorem dX15_digest_61 : decode cX15_digest 61 = .ok (.getfield 270, 3) := by decide +kernel
theorem dX15_digest_64 : decode cX15_digest 64 = .ok (.bipush 8, 2) := by decide +kernel
theorem dX15_digest_66 : decode cX15_digest 66 = .ok (.iaload, 1) := by decide +kernel
theorem dX15_digest_67 : decode cX15_digest 67 = .ok (.iastore, 1) := by decide +kernel
theorem dX15_digest_68 : decode cX15_digest 68 = .ok (.dup, 1) := by decide +kernel
theorem dX15_digest_69 : decode cX15_digest 69 = .ok (.bipush 6, 2) := by decide +kernel
theorem dX15_digest_71 : decode cX15_digest 71 = .ok (.aload_n 0, 1) := by decide +kernel
theorem dX15_digest_72 : decode cX15_digest 72 = .ok (.aload_n 0, 1) := by decide +kernel
theorem dX15_digest_73 : decode cX15_digest 73 = .ok (.getfield 48, 3) := by decide +kernel
theorem dX15_digest_76 : decode cX15_digest 76 = .ok (.iconst (-1), 1) := by decide +kernel
theorem dX15_digest_77 : decode cX15_digest 77 = .ok (.invokevirtual 310, 3) := by decide +kernel
theorem dX15_digest_80 : decode cX15_digest 80 = .ok (.iastore, 1) := by decide +kernel
theorem dX15_digest_81 : decode cX15_digest 81 = .ok (.astore_n 1, 1) := by decide +kernel
theorem dX15_digest_82 : decode cX15_digest 82 = .ok (.ldc2_w 362, 3) := by decide +kernel
theorem dX15_digest_85 : decode cX15_digest 85 = .ok (.lstore_n 2, 1) := by decide +kernel
theorem dX15_digest_86 : decode cX15_digest 86 = .ok (.aload_n 1, 1) := by decide +kernel
theorem dX15_digest_87 : decode cX15_digest 87 = .ok (.astore 4, 2) := by decide +kernel
theorem dX15_digest_89 : decode cX15_digest 89 = .ok (.aload 4, 2) := by decide +kernel
theorem dX15_digest_91 : decode cX15_digest 91 = .ok (.arraylength, 1) := by decide +kernel
theorem dX15_digest_92 : decode cX15_digest 92 = .ok (.istore 5, 2) := by decide +kernel
theorem dX15_digest_94 : decode cX15_digest 94 = .ok (.iconst 0, 1) := by decide +kernel
theorem dX15_digest_95 : decode cX15_digest 95 = .ok (.istore 6, 2) := by decide +kernel
theorem dX15_digest_97 : decode cX15_digest 97 = .ok (.iload 6, 2) := by decide +kernel
theorem dX15_digest_99 : decode cX15_digest 99 = .ok (.iload 5, 2) := by decide +kernel
theorem dX15_digest_101 : decode cX15_digest 101 = .ok (.if_icmp .ge 26, 3) := by decide +kernel
theorem dX15_digest_104 : decode cX15_digest 104 = .ok (.aload 4, 2) := by decide +kernel
theorem dX15_digest_106 : decode cX15_digest 106 = .ok (.iload 6, 2) := by decide +kernel
theorem dX15_digest_108 : decode cX15_digest 108 = .ok (.iaload, 1) := by decide +kernel
theorem dX15_digest_109 : decode cX15_digest 109 = .ok (.istore 7, 2) := by decide +kernel
theorem dX15_digest_111 : decode cX15_digest 111 = .ok (.lload_n 2, 1) := by decide +kernel
theorem dX15_digest_112 : decode cX15_digest 112 = .ok (.ldc2_w 364, 3) := by decide +kernel
theorem dX15_digest_115 : decode cX15_digest 115 = .ok (.lmul, 1) := by decide +kernel
theorem dX15_digest_116 : decode cX15_digest 116 = .ok (.iload 7, 2) := by decide +kernel
theorem dX15_digest_118 : decode cX15_digest 118 = .ok (.i2l, 1) := by decide +kernel
theorem dX15_digest_119 : decode cX15_digest 119 = .ok (.ladd, 1) := by decide +kernel
theorem dX15_digest_120 : decode cX15_digest 120 = .ok (.lstore_n 2, 1) := by decide +kernel
theorem dX15_digest_121 : decode cX15_digest 121 = .ok (.iinc 6 1, 3) := by decide +kernel
theorem dX15_digest_124 : decode cX15_digest 124 = .ok (.goto (-27), 3) := by decide +kernel
theorem dX15_digest_127 : decode cX15_digest 127 = .ok (.iconst 0, 1) := by decide +kernel
theorem dX15_digest_128 : decode cX15_digest 128 = .ok (.istore 4, 2) := by decide +kernel
theorem dX15_digest_130 : decode cX15_digest 130 = .ok (.iload 4, 2) := by decide +kernel
theorem dX15_digest_132 : decode cX15_digest 132 = .ok (.aload_n 0, 1) := by decide +kernel
theorem dX15_digest_133 : decode cX15_digest 133 = .ok (.getfield 35, 3) := by decide +kernel
theorem dX15_digest_136 : decode cX15_digest 136 = .ok (.getfield 147, 3) := by decide +kernel
theorem dX15_digest_139 : decode cX15_digest 139 = .ok (.if_icmp .ge 152, 3) := by decide +kernel
theorem dX15_digest_142 : decode cX15_digest 142 = .ok (.lload_n 2, 1) := by decide +kernel
theorem dX15_digest_143 : decode cX15_digest 143 = .ok (.ldc2_w 364, 3) := by decide +kernel
theorem dX15_digest_146 : decode cX15_digest 146 = .ok (.lmul, 1) := by decide +kernel
theorem dX15_digest_147 : decode cX15_digest 147 = .ok (.aload_n 0, 1) := by decide +kernel
theorem dX15_digest_148 : decode cX15_digest 148 = .ok (.getfield 48, 3) := by decide +kernel
theorem dX15_digest_151 : decode cX15_digest 151 = .ok (.getfield 270, 3) := by decide +kernel
theorem dX15_digest_154 : decode cX15_digest 154 = .ok (.iload 4, 2) := by decide +kernel
theorem dX15_digest_156 : decode cX15_digest 156 = .ok (.iaload, 1) := by decide +kernel
theorem dX15_digest_157 : decode cX15_digest 157 = .ok (.i2l, 1) := by decide +kernel
theorem dX15_digest_158 : decode cX15_digest 158 = .ok (.ladd, 1) := by decide +kernel
theorem dX15_digest_159 : decode cX15_digest 159 = .ok (.ldc2_w 364, 3) := by decide +kernel
theorem dX15_digest_162 : decode cX15_digest 162 = .ok (.lmul, 1) := by decide +kernel
theorem dX15_digest_163 : decode cX15_digest 163 = .ok (.aload_n 0, 1) := by decide +kernel
theorem dX15_digest_164 : decode cX15_digest 164 = .ok (.getfield 48, 3) := by decide +kernel
theorem dX15_digest_167 : decode cX15_digest 167 = .ok (.getfield 293, 3) := by decide +kernel
theorem dX15_digest_170 : decode cX15_digest 170 = .ok (.iload 4, 2) := by decide +kernel
theorem dX15_digest_172 : decode cX15_digest 172 = .ok (.iaload, 1) := by decide +kernel
theorem dX15_digest_173 : decode cX15_digest 173 = .ok (.i2l, 1) := by decide +kernel
theorem dX15_digest_174 : decode cX15_digest 174 = .ok (.ladd, 1) := by decide +kernel
theorem dX15_digest_175 : decode cX15_digest 175 = .ok (.ldc2_w 364, 3) := by decide +kernel
theorem dX15_digest_178 : decode cX15_digest 178 = .ok (.lmul, 1) := by decide +kernel
theorem dX15_digest_179 : decode cX15_digest 179 = .ok (.aload_n 0, 1) := by decide +kernel
theorem dX15_digest_180 : decode cX15_digest 180 = .ok (.iload 4, 2) := by decide +kernel
theorem dX15_digest_182 : decode cX15_digest 182 = .ok (.invokevirtual 350, 3) := by decide +kernel
theorem dX15_digest_185 : decode cX15_digest 185 = .ok (.ifCond .eq 7, 3) := by decide +kernel
theorem dX15_digest_188 : decode cX15_digest 188 = .ok (.iconst 1, 1) := by decide +kernel
theorem dX15_digest_189 : decode cX15_digest 189 = .ok (.goto 4, 3) := by decide +kernel
theorem dX15_digest_192 : decode cX15_digest 192 = .ok (.iconst 0, 1) := by decide +kernel
theorem dX15_digest_193 : decode cX15_digest 193 = .ok (.i2l, 1) := by decide +kernel
theorem dX15_digest_194 : decode cX15_digest 194 = .ok (.ladd, 1) := by decide +kernel
theorem dX15_digest_195 : decode cX15_digest 195 = .ok (.lstore_n 2, 1) := by decide +kernel
theorem dX15_digest_196 : decode cX15_digest 196 = .ok (.iconst 0, 1) := by decide +kernel
theorem dX15_digest_197 : decode cX15_digest 197 = .ok (.istore 5, 2) := by decide +kernel
theorem dX15_digest_199 : decode cX15_digest 199 = .ok (.iload 5, 2) := by decide +kernel
theorem dX15_digest_201 : decode cX15_digest 201 = .ok (.aload_n 0, 1) := by decide +kernel
theorem dX15_digest_202 : decode cX15_digest 202 = .ok (.getfield 48, 3) := by decide +kernel
theorem dX15_digest_205 : decode cX15_digest 205 = .ok (.getfield 270, 3) := by decide +kernel
theorem dX15_digest_208 : decode cX15_digest 208 = .ok (.iload 4, 2) := by decide +kernel
theorem dX15_digest_210 : decode cX15_digest 210 = .ok (.iaload, 1) := by decide +kernel
theorem dX15_digest_211 : decode cX15_digest 211 = .ok (.if_icmp .ge 33, 3) := by decide +kernel
theorem dX15_digest_214 : decode cX15_digest 214 = .ok (.lload_n 2, 1) := by decide +kernel
theorem dX15_digest_215 : decode cX15_digest 215 = .ok (.ldc2_w 364, 3) := by decide +kernel
theorem dX15_digest_218 : decode cX15_digest 218 = .ok (.lmul, 1) := by decide +kernel
theorem dX15_digest_219 : decode cX15_digest 219 = .ok (.aload_n 0, 1) := by decide +kernel
theorem dX15_digest_220 : decode cX15_digest 220 = .ok (.getfield 48, 3) := by decide +kernel
theorem dX15_digest_223 : decode cX15_digest 223 = .ok (.getfield 271, 3) := by decide +kernel
theorem dX15_digest_226 : decode cX15_digest 226 = .ok (.bipush 24, 2) := by decide +kernel
theorem dX15_digest_228 : decode cX15_digest 228 = .ok (.iload 4, 2) := by decide +kernel
theorem dX15_digest_230 : decode cX15_digest 230 = .ok (.imul, 1) := by decide +kernel
theorem dX15_digest_231 : decode cX15_digest 231 = .ok (.iload 5, 2) := by decide +kernel
theorem dX15_digest_233 : decode cX15_digest 233 = .ok (.iadd, 1) := by decide +kernel
theorem dX15_digest_234 : decode cX15_digest 234 = .ok (.iaload, 1) := by decide +kernel
theorem dX15_digest_235 : decode cX15_digest 235 = .ok (.i2l, 1) := by decide +kernel
theorem dX15_digest_236 : decode cX15_digest 236 = .ok (.ladd, 1) := by decide +kernel
theorem dX15_digest_237 : decode cX15_digest 237 = .ok (.lstore_n 2, 1) := by decide +kernel
theorem dX15_digest_238 : decode cX15_digest 238 = .ok (.iinc 5 1, 3) := by decide +kernel
theorem dX15_digest_241 : decode cX15_digest 241 = .ok (.goto (-42), 3) := by decide +kernel
theorem dX15_digest_244 : decode cX15_digest 244 = .ok (.iconst 0, 1) := by decide +kernel
theorem dX15_digest_245 : decode cX15_digest 245 = .ok (.istore 5, 2) := by decide +kernel
theorem dX15_digest_247 : decode cX15_digest 247 = .ok (.iload 5, 2) := by decide +kernel
theorem dX15_digest_249 : decode cX15_digest 249 = .ok (.aload_n 0, 1) := by decide +kernel
theorem dX15_digest_250 : decode cX15_digest 250 = .ok (.getfield 35, 3) := by decide +kernel
theorem dX15_digest_253 : decode cX15_digest 253 = .ok (.getfield 147, 3) := by decide +kernel
theorem dX15_digest_256 : decode cX15_digest 256 = .ok (.if_icmp .ge 29, 3) := by decide +kernel
theorem dX15_digest_259 : decode cX15_digest 259 = .ok (.lload_n 2, 1) := by decide +kernel
theorem dX15_digest_260 : decode cX15_digest 260 = .ok (.ldc2_w 364, 3) := by decide +kernel
theorem dX15_digest_263 : decode cX15_digest 263 = .ok (.lmul, 1) := by decide +kernel
theorem dX15_digest_264 : decode cX15_digest 264 = .ok (.aload_n 0, 1) := by decide +kernel
theorem dX15_digest_265 : decode cX15_digest 265 = .ok (.aload_n 0, 1) := by decide +kernel
theorem dX15_digest_266 : decode cX15_digest 266 = .ok (.getfield 48, 3) := by decide +kernel
theorem dX15_digest_269 : decode cX15_digest 269 = .ok (.iload 4, 2) := by decide +kernel
theorem dX15_digest_271 : decode cX15_digest 271 = .ok (.iload 5, 2) := by decide +kernel
theorem dX15_digest_273 : decode cX15_digest 273 = .ok (.invokevirtual 296, 3) := by decide +kernel
theorem dX15_digest_276 : decode cX15_digest 276 = .ok (.i2l, 1) := by decide +kernel
theorem dX15_digest_277 : decode cX15_digest 277 = .ok (.ladd, 1) := by decide +kernel
theorem dX15_digest_278 : decode cX15_digest 278 = .ok (.lstore_n 2, 1) := by decide +kernel
theorem dX15_digest_279 : decode cX15_digest 279 = .ok (.iinc 5 1, 3) := by decide +kernel
theorem dX15_digest_282 : decode cX15_digest 282 = .ok (.goto (-35), 3) := by decide +kernel
theorem dX15_digest_285 : decode cX15_digest 285 = .ok (.iinc 4 1, 3) := by decide +kernel
theorem dX15_digest_288 : decode cX15_digest 288 = .ok (.goto (-158), 3) := by decide +kernel
theorem dX15_digest_291 : decode cX15_digest 291 = .ok (.iconst 0, 1) := by decide +kernel
theorem dX15_digest_292 : decode cX15_digest 292 = .ok (.istore 4, 2) := by decide +kernel
theorem dX15_digest_294 : decode cX15_digest 294 = .ok (.iload 4, 2) := by decide +kernel
theorem dX15_digest_296 : decode cX15_digest 296 = .ok (.aload_n 0, 1) := by decide +kernel
theorem dX15_digest_297 : decode cX15_digest 297 = .ok (.getfield 48, 3) := by decide +kernel
theorem dX15_digest_300 : decode cX15_digest 300 = .ok (.getfield 270, 3) := by decide +kernel
theorem dX15_digest_303 : decode cX15_digest 303 = .ok (.bipush 8, 2) := by decide +kernel
theorem dX15_digest_305 : decode cX15_digest 305 = .ok (.iaload, 1) := by decide +kernel
theorem dX15_digest_306 : decode cX15_digest 306 = .ok (.if_icmp .ge 31, 3) := by decide +kernel
theorem dX15_digest_309 : decode cX15_digest 309 = .ok (.lload_n 2, 1) := by decide +kernel
theorem dX15_digest_310 : decode cX15_digest 310 = .ok (.ldc2_w 364, 3) := by decide +kernel
theorem dX15_digest_313 : decode cX15_digest 313 = .ok (.lmul, 1) := by decide +kernel
theorem dX15_digest_314 : decode cX15_digest 314 = .ok (.aload_n 0, 1) := by decide +kernel
theorem dX15_digest_315 : decode cX15_digest 315 = .ok (.getfield 48, 3) := by decide +kernel
theorem dX15_digest_318 : decode cX15_digest 318 = .ok (.getfield 271, 3) := by decide +kernel
theorem dX15_digest_321 : decode cX15_digest 321 = .ok (.sipush 192, 3) := by decide +kernel
theorem dX15_digest_324 : decode cX15_digest 324 = .ok (.iload 4, 2) := by decide +kernel
theorem dX15_digest_326 : decode cX15_digest 326 = .ok (.iadd, 1) := by decide +kernel
theorem dX15_digest_327 : decode cX15_digest 327 = .ok (.iaload, 1) := by decide +kernel
theorem dX15_digest_328 : decode cX15_digest 328 = .ok (.i2l, 1) := by decide +kernel
theorem dX15_digest_329 : decode cX15_digest 329 = .ok (.ladd, 1) := by decide +kernel
theorem dX15_digest_330 : decode cX15_digest 330 = .ok (.lstore_n 2, 1) := by decide +kernel
theorem dX15_digest_331 : decode cX15_digest 331 = .ok (.iinc 4 1, 3) := by decide +kernel
theorem dX15_digest_334 : decode cX15_digest 334 = .ok (.goto (-40), 3) := by decide +kernel
theorem dX15_digest_337 : decode cX15_digest 337 = .ok (.aload_n 0, 1) := by decide +kernel
theorem dX15_digest_338 : decode cX15_digest 338 = .ok (.iconst 0, 1) := by decide +kernel
theorem dX15_digest_339 : decode cX15_digest 339 = .ok (.putfield 62, 3) := by decide +kernel
theorem dX15_digest_342 : decode cX15_digest 342 = .ok (.lload_n 2, 1) := by decide +kernel
theorem dX15_digest_343 : decode cX15_digest 343 = .ok (.lreturn, 1) := by decide +kernel
theorem dJx29ce0_ordinal_8abf5_0 : decode cJx29ce0_ordinal_8abf5 0 = .ok (.aload_n 0, 1) := by decide +kernel
theorem dJx29ce0_ordinal_8abf5_1 : decode cJx29ce0_ordinal_8abf5 1 = .ok (.getfield 7, 3) := by decide +kernel
theorem dJx29ce0_ordinal_8abf5_4 : decode cJx29ce0_ordinal_8abf5 4 = .ok (.ireturn, 1) := by decide +kernel
theorem dJ6_signum_0f7a4_0 : decode cJ6_signum_0f7a4 0 = .ok (.iload_n 0, 1) := by decide +kernel
theorem dJ6_signum_0f7a4_1 : decode cJ6_signum_0f7a4 1 = .ok (.bipush 31, 2) := by decide +kernel
theorem dJ6_signum_0f7a4_3 : decode cJ6_signum_0f7a4 3 = .ok (.ishr, 1) := by decide +kernel
theorem dJ6_signum_0f7a4_4 : decode cJ6_signum_0f7a4 4 = .ok (.iload_n 0, 1) := by decide +kernel
theorem dJ6_signum_0f7a4_5 : decode cJ6_signum_0f7a4 5 = .ok (.ineg, 1) := by decide +kernel
theorem dJ6_signum_0f7a4_6 : decode cJ6_signum_0f7a4 6 = .ok (.bipush 31, 2) := by decide +kernel
theorem dJ6_signum_0f7a4_8 : decode cJ6_signum_0f7a4 8 = .ok (.iushr, 1) := by decide +kernel
theorem dJ6_signum_0f7a4_9 : decode cJ6_signum_0f7a4 9 = .ok (.ior, 1) := by decide +kernel
theorem dJ6_signum_0f7a4_10 : decode cJ6_signum_0f7a4 10 = .ok (.ireturn, 1) := by decide +kernel
theorem dJ9_abs_0f7a4_0 : decode cJ9_abs_0f7a4 0 = .ok (.iload_n 0, 1) := by decide +kernel
theorem dJ9_abs_0f7a4_1 : decode cJ9_abs_0f7a4 1 = .ok (.ifCond .ge 8, 3) := by decide +kernel
theorem dJ9_abs_0f7a4_4 : decode cJ9_abs_0f7a4 4 = .ok (.iload_n 0, 1) := by decide +kernel
theorem dJ9_abs_0f7a4_5 : decode cJ9_abs_0f7a4 5 = .ok (.ineg, 1) := by decide +kernel
theorem dJ9_abs_0f7a4_6 : decode cJ9_abs_0f7a4 6 = .ok (.goto 4, 3) := by decide +kernel
theorem dJ9_abs_0f7a4_9 : decode cJ9_abs_0f7a4 9 = .ok (.iload_n 0, 1) := by decide +kernel
theorem dJ9_abs_0f7a4_10 : decode cJ9_abs_0f7a4 10 = .ok (.ireturn, 1) := by decide +kernel
theorem dJ9_max_7cf53_0 : decode cJ9_max_7cf53 0 = .ok (.iload_n 0, 1) := by decide +kernel
theorem dJ9_max_7cf53_1 : decode cJ9_max_7cf53 1 = .ok (.iload_n 1, 1) := by decide +kernel
theorem dJ9_max_7cf53_2 : decode cJ9_max_7cf53 2 = .ok (.if_icmp .lt 7, 3) := by decide +kernel
theorem dJ9_max_7cf53_5 : decode cJ9_max_7cf53 5 = .ok (.iload_n 0, 1) := by decide +kernel
theorem dJ9_max_7cf53_6 : decode cJ9_max_7cf53 6 = .ok (.goto 4, 3) := by decide +kernel
theorem dJ9_max_7cf53_9 : decode cJ9_max_7cf53 9 = .ok (.iload_n 1, 1) := by decide +kernel
theorem dJ9_max_7cf53_10 : decode cJ9_max_7cf53 10 = .ok (.ireturn, 1) := by decide +kernel
theorem dJ9_max_f86c9_0 : decode cJ9_max_f86c9 0 = .ok (.lload_n 0, 1) := by decide +kernel
theorem dJ9_max_f86c9_1 : decode cJ9_max_f86c9 1 = .ok (.lload_n 2, 1) := by decide +kernel
theorem dJ9_max_f86c9_2 : decode cJ9_max_f86c9 2 = .ok (.lcmp, 1) := by decide +kernel
theorem dJ9_max_f86c9_3 : decode cJ9_max_f86c9 3 = .ok (.ifCond .lt 7, 3) := by decide +kernel
theorem dJ9_max_f86c9_6 : decode cJ9_max_f86c9 6 = .ok (.lload_n 0, 1) := by decide +kernel
theorem dJ9_max_f86c9_7 : decode cJ9_max_f86c9 7 = .ok (.goto 4, 3) := by decide +kernel
theorem dJ9_max_f86c9_10 : decode cJ9_max_f86c9 10 = .ok (.lload_n 2, 1) := by decide +kernel
theorem dJ9_max_f86c9_11 : decode cJ9_max_f86c9 11 = .ok (.lreturn, 1) := by decide +kernel
theorem dJ9_min_7cf53_0 : decode cJ9_min_7cf53 0 = .ok (.iload_n 0, 1) := by decide +kernel
theorem dJ9_min_7cf53_1 : decode cJ9_min_7cf53 1 = .ok (.iload_n 1, 1) := by decide +kernel
theorem dJ9_min_7cf53_2 : decode cJ9_min_7cf53 2 = .ok (.if_icmp .gt 7, 3) := by decide +kernel
theorem dJ9_min_7cf53_5 : decode cJ9_min_7cf53 5 = .ok (.iload_n 0, 1) := by decide +kernel
theorem dJ9_min_7cf53_6 : decode cJ9_min_7cf53 6 = .ok (.goto 4, 3) := by decide +kernel
theorem dJ9_min_7cf53_9 : decode cJ9_min_7cf53 9 = .ok (.iload_n 1, 1) := by decide +kernel
theorem dJ9_min_7cf53_10 : decode cJ9_min_7cf53 10 = .ok (.ireturn, 1) := by decide +kernel
theorem dJ9_min_f86c9_0 : decode cJ9_min_f86c9 0 = .ok (.lload_n 0, 1) := by decide +kernel
theorem dJ9_min_f86c9_1 : decode cJ9_min_f86c9 1 = .ok (.lload_n 2, 1) := by decide +kernel
theorem dJ9_min_f86c9_2 : decode cJ9_min_f86c9 2 = .ok (.lcmp, 1) := by decide +kernel
theorem dJ9_min_f86c9_3 : decode cJ9_min_f86c9 3 = .ok (.ifCond .gt 7, 3) := by decide +kernel
theorem dJ9_min_f86c9_6 : decode cJ9_min_f86c9 6 = .ok (.lload_n 0, 1) := by decide +kernel
theorem dJ9_min_f86c9_7 : decode cJ9_min_f86c9 7 = .ok (.goto 4, 3) := by decide +kernel
theorem dJ9_min_f86c9_10 : decode cJ9_min_f86c9 10 = .ok (.lload_n 2, 1) := by decide +kernel
theorem dJ9_min_f86c9_11 : decode cJ9_min_f86c9 11 = .ok (.lreturn, 1) := by decide +kernel
theorem dJ0_length_8abf5_0 : decode cJ0_length_8abf5 0 = .ok (.aload_n 0, 1) := by decide +kernel
theorem dJ0_length_8abf5_1 : decode cJ0_length_8abf5 1 = .ok (.getfield 9, 3) := by decide +kernel
theorem dJ0_length_8abf5_4 : decode cJ0_length_8abf5 4 = .ok (.arraylength, 1) := by decide +kernel
theorem dJ0_length_8abf5_5 : decode cJ0_length_8abf5 5 = .ok (.aload_n 0, 1) := by decide +kernel
theorem dJ0_length_8abf5_6 : decode cJ0_length_8abf5 6 = .ok (.invokevirtual 335, 3) := by decide +kernel
theorem dJ0_length_8abf5_9 : decode cJ0_length_8abf5 9 = .ok (.ishr, 1) := by decide +kernel
theorem dJ0_length_8abf5_10 : decode cJ0_length_8abf5 10 = .ok (.ireturn, 1) := by decide +kernel
theorem dJ0_charAt_5068e_0 : decode cJ0_charAt_5068e 0 = .ok (.aload_n 0, 1) := by decide +kernel
theorem dJ0_charAt_5068e_1 : decode cJ0_charAt_5068e 1 = .ok (.invokevirtual 492, 3) := by decide +kernel
theorem dJ0_charAt_5068e_4 : decode cJ0_charAt_5068e 4 = .ok (.ifCond .eq 12, 3) := by decide +kernel
theorem dJ0_charAt_5068e_7 : decode cJ0_charAt_5068e 7 = .ok (.aload_n 0, 1) := by decide +kernel
theorem dJ0_charAt_5068e_8 : decode cJ0_charAt_5068e 8 = .ok (.getfield 9, 3) := by decide +kernel
theorem dJ0_charAt_5068e_11 : decode cJ0_charAt_5068e 11 = .ok (.iload_n 1, 1) := by decide +kernel
theorem dJ0_charAt_5068e_12 : decode cJ0_charAt_5068e 12 = .ok (.invokestatic 495, 3) := by decide +kernel
theorem dJ0_charAt_5068e_15 : decode cJ0_charAt_5068e 15 = .ok (.ireturn, 1) := by decide +kernel
theorem dJ0_charAt_5068e_16 : decode cJ0_charAt_5068e 16 = .ok (.aload_n 0, 1) := by decide +kernel
theorem dJ0_charAt_5068e_17 : decode cJ0_charAt_5068e 17 = .ok (.getfield 9, 3) := by decide +kernel
theorem dJ0_charAt_5068e_20 : decode cJ0_charAt_5068e 20 = .ok (.iload_n 1, 1) := by decide +kernel
theorem dJ0_charAt_5068e_21 : decode cJ0_charAt_5068e 21 = .ok (.invokestatic 498, 3) := by decide +kernel
theorem dJ0_charAt_5068e_24 : decode cJ0_charAt_5068e 24 = .ok (.ireturn, 1) := by decide +kernel
theorem dJ0_coder_7d493_0 : decode cJ0_coder_7d493 0 = .ok (.getstatic 38, 3) := by decide +kernel
theorem dJ0_coder_7d493_3 : decode cJ0_coder_7d493 3 = .ok (.ifCond .eq 10, 3) := by decide +kernel
theorem dJ0_coder_7d493_6 : decode cJ0_coder_7d493 6 = .ok (.aload_n 0, 1) := by decide +kernel
theorem dJ0_coder_7d493_7 : decode cJ0_coder_7d493 7 = .ok (.getfield 15, 3) := by decide +kernel
theorem dJ0_coder_7d493_10 : decode cJ0_coder_7d493 10 = .ok (.goto 4, 3) := by decide +kernel
theorem dJ0_coder_7d493_13 : decode cJ0_coder_7d493 13 = .ok (.iconst 1, 1) := by decide +kernel
theorem dJ0_coder_7d493_14 : decode cJ0_coder_7d493 14 = .ok (.ireturn, 1) := by decide +kernel
theorem dJ0_isLatin1_aae02_0 : decode cJ0_isLatin1_aae02 0 = .ok (.getstatic 38, 3) := by decide +kernel
theorem dJ0_isLatin1_aae02_3 : decode cJ0_isLatin1_aae02 3 = .ok (.ifCond .eq 14, 3) := by decide +kernel
theorem dJ0_isLatin1_aae02_6 : decode cJ0_isLatin1_aae02 6 = .ok (.aload_n 0, 1) := by decide +kernel
theorem dJ0_isLatin1_aae02_7 : decode cJ0_isLatin1_aae02 7 = .ok (.getfield 15, 3) := by decide +kernel
theorem dJ0_isLatin1_aae02_10 : decode cJ0_isLatin1_aae02 10 = .ok (.ifCond .ne 7, 3) := by decide +kernel
theorem dJ0_isLatin1_aae02_13 : decode cJ0_isLatin1_aae02 13 = .ok (.iconst 1, 1) := by decide +kernel
theorem dJ0_isLatin1_aae02_14 : decode cJ0_isLatin1_aae02 14 = .ok (.goto 4, 3) := by decide +kernel
theorem dJ0_isLatin1_aae02_17 : decode cJ0_isLatin1_aae02 17 = .ok (.iconst 0, 1) := by decide +kernel
theorem dJ0_isLatin1_aae02_18 : decode cJ0_isLatin1_aae02 18 = .ok (.ireturn, 1) := by decide +kernel
theorem dJ0_checkIndex_df160_0 : decode cJ0_checkIndex_df160 0 = .ok (.iload_n 0, 1) := by decide +kernel
theorem dJ0_checkIndex_df160_1 : decode cJ0_checkIndex_df160 1 = .ok (.iload_n 1, 1) := by decide +kernel
theorem dJ0_checkIndex_df160_2 : decode cJ0_checkIndex_df160 2 = .ok (.getstatic 1053, 3) := by decide +kernel
theorem dJ0_checkIndex_df160_5 : decode cJ0_checkIndex_df160 5 = .ok (.invokestatic 1059, 3) := by decide +kernel
theorem dJ0_checkIndex_df160_8 : decode cJ0_checkIndex_df160 8 = .ok (.pop, 1) := by decide +kernel
theorem dJ0_checkIndex_df160_9 : decode cJ0_checkIndex_df160 9 = .ok (.return_, 1) := by decide +kernel
theorem dJ1_charAt_3b067_0 : decode cJ1_charAt_3b067 0 = .ok (.iload_n 1, 1) := by decide +kernel
theorem dJ1_charAt_3b067_1 : decode cJ1_charAt_3b067 1 = .ok (.aload_n 0, 1) := by decide +kernel
theorem dJ1_charAt_3b067_2 : decode cJ1_charAt_3b067 2 = .ok (.arraylength, 1) := by decide +kernel
theorem dJ1_charAt_3b067_3 : decode cJ1_charAt_3b067 3 = .ok (.invokestatic 9, 3) := by decide +kernel
theorem dJ1_charAt_3b067_6 : decode cJ1_charAt_3b067 6 = .ok (.aload_n 0, 1) := by decide +kernel
theorem dJ1_charAt_3b067_7 : decode cJ1_charAt_3b067 7 = .ok (.iload_n 1, 1) := by decide +kernel
theorem dJ1_charAt_3b067_8 : decode cJ1_charAt_3b067 8 = .ok (.baload, 1) := by decide +kernel
theorem dJ1_charAt_3b067_9 : decode cJ1_charAt_3b067 9 = .ok (.sipush 255, 3) := by decide +kernel
theorem dJ1_charAt_3b067_12 : decode cJ1_charAt_3b067 12 = .ok (.iand, 1) := by decide +kernel
theorem dJ1_charAt_3b067_13 : decode cJ1_charAt_3b067 13 = .ok (.i2c, 1) := by decide +kernel
theorem dJ1_charAt_3b067_14 : decode cJ1_charAt_3b067 14 = .ok (.ireturn, 1) := by decide +kernel
theorem dJ2_getChar_3b067_0 : decode cJ2_getChar_3b067 0 = .ok (.getstatic 44, 3) := by decide +kernel
theorem dJ2_getChar_3b067_3 : decode cJ2_getChar_3b067 3 = .ok (.ifCond .ne 25, 3) := by decide +kernel
theorem dJ2_getChar_3b067_6 : decode cJ2_getChar_3b067 6 = .ok (.iload_n 1, 1) := by decide +kernel
theorem dJ2_getChar_3b067_7 : decode cJ2_getChar_3b067 7 = .ok (.ifCond .lt 11, 3) := by decide +kernel
theorem dJ2_getChar_3b067_10 : decode cJ2_getChar_3b067 10 = .ok (.iload_n 1, 1) := by decide +kernel
theorem dJ2_getChar_3b067_11 : decode cJ2_getChar_3b067 11 = .ok (.aload_n 0, 1) := by decide +kernel
theorem dJ2_getChar_3b067_12 : decode cJ2_getChar_3b067 12 = .ok (.invokestatic 48, 3) := by decide +kernel
theorem dJ2_getChar_3b067_15 : decode cJ2_getChar_3b067 15 = .ok (.if_icmp .lt 13, 3) := by decide +kernel
theorem dJ2_getChar_3b067_18 : decode cJ2_getChar_3b067 18 = .ok (.new 52, 3) := by decide +kernel
theorem dJ2_getChar_3b067_21 : decode cJ2_getChar_3b067 21 = .ok (.dup, 1) := by decide +kernel
theorem dJ2_getChar_3b067_22 : decode cJ2_getChar_3b067 22 = .ok (.ldc 54, 2) := by decide +kernel
theorem dJ2_getChar_3b067_24 : decode cJ2_getChar_3b067 24 = .ok (.invokespecial 56, 3) := by decide +kernel
theorem dJ2_getChar_3b067_27 : decode cJ2_getChar_3b067 27 = .ok (.athrow, 1) := by decide +kernel
theorem dJ2_getChar_3b067_28 : decode cJ2_getChar_3b067 28 = .ok (.iload_n 1, 1) := by decide +kernel
theorem dJ2_getChar_3b067_29 : decode cJ2_getChar_3b067 29 = .ok (.iconst 1, 1) := by decide +kernel
theorem dJ2_getChar_3b067_30 : decode cJ2_getChar_3b067 30 = .ok (.ishl, 1) := by decide +kernel
theorem dJ2_getChar_3b067_31 : decode cJ2_getChar_3b067 31 = .ok (.istore_n 1, 1) := by decide +kernel
theorem dJ2_getChar_3b067_32 : decode cJ2_getChar_3b067 32 = .ok (.aload_n 0, 1) := by decide +kernel
theorem dJ2_getChar_3b067_33 : decode cJ2_getChar_3b067 33 = .ok (.iload_n 1, 1) := by decide +kernel
theorem dJ2_getChar_3b067_34 : decode cJ2_getChar_3b067 34 = .ok (.iinc 1 1, 3) := by decide +kernel
theorem dJ2_getChar_3b067_37 : decode cJ2_getChar_3b067 37 = .ok (.baload, 1) := by decide +kernel
theorem dJ2_getChar_3b067_38 : decode cJ2_getChar_3b067 38 = .ok (.sipush 255, 3) := by decide +kernel
theorem dJ2_getChar_3b067_41 : decode cJ2_getChar_3b067 41 = .ok (.iand, 1) := by decide +kernel
theorem dJ2_getChar_3b067_42 : decode cJ2_getChar_3b067 42 = .ok (.getstatic 59, 3) := by decide +kernel
theorem dJ2_getChar_3b067_45 : decode cJ2_getChar_3b067 45 = .ok (.ishl, 1) := by decide +kernel
theorem dJ2_getChar_3b067_46 : decode cJ2_getChar_3b067 46 = .ok (.aload_n 0, 1) := by decide +kernel
theorem dJ2_getChar_3b067_47 : decode cJ2_getChar_3b067 47 = .ok (.iload_n 1, 1) := by decide +kernel
theorem dJ2_getChar_3b067_48 : decode cJ2_getChar_3b067 48 = .ok (.baload, 1) := by decide +kernel
theorem dJ2_getChar_3b067_49 : decode cJ2_getChar_3b067 49 = .ok (.sipush 255, 3) := by decide +kernel
theorem dJ2_getChar_3b067_52 : decode cJ2_getChar_3b067 52 = .ok (.iand, 1) := by decide +kernel
theorem dJ2_getChar_3b067_53 : decode cJ2_getChar_3b067 53 = .ok (.getstatic 63, 3) := by decide +kernel
theorem dJ2_getChar_3b067_56 : decode cJ2_getChar_3b067 56 = .ok (.ishl, 1) := by decide +kernel
theorem dJ2_getChar_3b067_57 : decode cJ2_getChar_3b067 57 = .ok (.ior, 1) := by decide +kernel
theorem dJ2_getChar_3b067_58 : decode cJ2_getChar_3b067 58 = .ok (.i2c, 1) := by decide +kernel
theorem dJ2_getChar_3b067_59 : decode cJ2_getChar_3b067 59 = .ok (.ireturn, 1) := by decide +kernel
theorem dJ2_length_9d52b_0 : decode cJ2_length_9d52b 0 = .ok (.aload_n 0, 1) := by decide +kernel
theorem dJ2_length_9d52b_1 : decode cJ2_length_9d52b 1 = .ok (.arraylength, 1) := by decide +kernel
theorem dJ2_length_9d52b_2 : decode cJ2_length_9d52b 2 = .ok (.iconst 1, 1) := by decide +kernel
theorem dJ2_length_9d52b_3 : decode cJ2_length_9d52b 3 = .ok (.ishr, 1) := by decide +kernel
theorem dJ2_length_9d52b_4 : decode cJ2_length_9d52b 4 = .ok (.ireturn, 1) := by decide +kernel
theorem dJ2_charAt_3b067_0 : decode cJ2_charAt_3b067 0 = .ok (.iload_n 1, 1) := by decide +kernel
theorem dJ2_charAt_3b067_1 : decode cJ2_charAt_3b067 1 = .ok (.aload_n 0, 1) := by decide +kernel
theorem dJ2_charAt_3b067_2 : decode cJ2_charAt_3b067 2 = .ok (.invokestatic 67, 3) := by decide +kernel
theorem dJ2_charAt_3b067_5 : decode cJ2_charAt_3b067 5 = .ok (.aload_n 0, 1) := by decide +kernel
theorem dJ2_charAt_3b067_6 : decode cJ2_charAt_3b067 6 = .ok (.iload_n 1, 1) := by decide +kernel
theorem dJ2_charAt_3b067_7 : decode cJ2_charAt_3b067 7 = .ok (.invokestatic 71, 3) := by decide +kernel
theorem dJ2_charAt_3b067_10 : decode cJ2_charAt_3b067 10 = .ok (.ireturn, 1) := by decide +kernel
theorem dJ2_checkIndex_2214a_0 : decode cJ2_checkIndex_2214a 0 = .ok (.iload_n 0, 1) := by decide +kernel
theorem dJ2_checkIndex_2214a_1 : decode cJ2_checkIndex_2214a 1 = .ok (.aload_n 1, 1) := by decide +kernel
theorem dJ2_checkIndex_2214a_2 : decode cJ2_checkIndex_2214a 2 = .ok (.invokestatic 48, 3) := by decide +kernel
theorem dJ2_checkIndex_2214a_5 : decode cJ2_checkIndex_2214a 5 = .ok (.invokestatic 414, 3) := by decide +kernel
theorem dJ2_checkIndex_2214a_8 : decode cJ2_checkIndex_2214a 8 = .ok (.return_, 1) := by decide +kernel
theorem dJ7_fill_53178_0 : decode cJ7_fill_53178 0 = .ok (.iconst 0, 1) := by decide +kernel
theorem dJ7_fill_53178_1 : decode cJ7_fill_53178 1 = .ok (.istore_n 2, 1) := by decide +kernel
theorem dJ7_fill_53178_2 : decode cJ7_fill_53178 2 = .ok (.aload_n 0, 1) := by decide +kernel
theorem dJ7_fill_53178_3 : decode cJ7_fill_53178 3 = .ok (.arraylength, 1) := by decide +kernel
theorem dJ7_fill_53178_4 : decode cJ7_fill_53178 4 = .ok (.istore_n 3, 1) := by decide +kernel
theorem dJ7_fill_53178_5 : decode cJ7_fill_53178 5 = .ok (.iload_n 2, 1) := by decide +kernel
theorem dJ7_fill_53178_6 : decode cJ7_fill_53178 6 = .ok (.iload_n 3, 1) := by decide +kernel
theorem dJ7_fill_53178_7 : decode cJ7_fill_53178 7 = .ok (.if_icmp .ge 13, 3) := by decide +kernel
theorem dJ7_fill_53178_10 : decode cJ7_fill_53178 10 = .ok (.aload_n 0, 1) := by decide +kernel
theorem dJ7_fill_53178_11 : decode cJ7_fill_53178 11 = .ok (.iload_n 2, 1) := by decide +kernel
theorem dJ7_fill_53178_12 : decode cJ7_fill_53178 12 = .ok (.iload_n 1, 1) := by decide +kernel
theorem dJ7_fill_53178_13 : decode cJ7_fill_53178 13 = .ok (.iastore, 1) := by decide +kernel
theorem dJ7_fill_53178_14 : decode cJ7_fill_53178 14 = .ok (.iinc 2 1, 3) := by decide +kernel
theorem dJ7_fill_53178_17 : decode cJ7_fill_53178 17 = .ok (.goto (-12), 3) := by decide +kernel
theorem dJ7_fill_53178_20 : decode cJ7_fill_53178 20 = .ok (.return_, 1) := by decide +kernel
theorem dJ3_checkIndex_8e157_0 : decode cJ3_checkIndex_8e157 0 = .ok (.iload_n 0, 1) := by decide +kernel
theorem dJ3_checkIndex_8e157_1 : decode cJ3_checkIndex_8e157 1 = .ok (.ifCond .lt 8, 3) := by decide +kernel
theorem dJ3_checkIndex_8e157_4 : decode cJ3_checkIndex_8e157 4 = .ok (.iload_n 0, 1) := by decide +kernel
theorem dJ3_checkIndex_8e157_5 : decode cJ3_checkIndex_8e157 5 = .ok (.iload_n 1, 1) := by decide +kernel
theorem dJ3_checkIndex_8e157_6 : decode cJ3_checkIndex_8e157 6 = .ok (.if_icmp .lt 10, 3) := by decide +kernel
theorem dJ3_checkIndex_8e157_9 : decode cJ3_checkIndex_8e157 9 = .ok (.aload_n 2, 1) := by decide +kernel
theorem dJ3_checkIndex_8e157_10 : decode cJ3_checkIndex_8e157 10 = .ok (.iload_n 0, 1) := by decide +kernel
theorem dJ3_checkIndex_8e157_11 : decode cJ3_checkIndex_8e157 11 = .ok (.iload_n 1, 1) := by decide +kernel
theorem dJ3_checkIndex_8e157_12 : decode cJ3_checkIndex_8e157 12 = .ok (.invokestatic 95, 3) := by decide +kernel
theorem dJ3_checkIndex_8e157_15 : decode cJ3_checkIndex_8e157 15 = .ok (.athrow, 1) := by decide +kernel
theorem dJ3_checkIndex_8e157_16 : decode cJ3_checkIndex_8e157 16 = .ok (.iload_n 0, 1) := by decide +kernel
theorem dJ3_checkIndex_8e157_17 : decode cJ3_checkIndex_8e157 17 = .ok (.ireturn, 1) := by decide +kernel
