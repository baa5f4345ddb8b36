theorem dX1_init_0 : decode cX1_init 0 = .ok (.aload_n 0, 1) := by decide +kernel
theorem dX1_init_1 : decode cX1_init 1 = .ok (.invokespecial 3, 3) := by decide +kernel
theorem dX1_init_4 : decode cX1_init 4 = .ok (.aload_n 0, 1) := by decide +kernel
theorem dX1_init_5 : decode cX1_init 5 = .ok (.sipush 400, 3) := by decide +kernel
theorem dX1_init_8 : decode cX1_init 8 = .ok (.newarray .int, 2) := by decide +kernel
theorem dX1_init_10 : decode cX1_init 10 = .ok (.putfield 9, 3) := by decide +kernel
theorem dX1_init_13 : decode cX1_init 13 = .ok (.aload_n 0, 1) := by decide +kernel
theorem dX1_init_14 : decode cX1_init 14 = .ok (.iconst 0, 1) := by decide +kernel
theorem dX1_init_15 : decode cX1_init 15 = .ok (.putfield 15, 3) := by decide +kernel
theorem dX1_init_18 : decode cX1_init 18 = .ok (.aload_n 0, 1) := by decide +kernel
theorem dX1_init_19 : decode cX1_init 19 = .ok (.aload_n 1, 1) := by decide +kernel
theorem dX1_init_20 : decode cX1_init 20 = .ok (.putfield 19, 3) := by decide +kernel
theorem dX1_init_23 : decode cX1_init 23 = .ok (.aload_n 0, 1) := by decide +kernel
theorem dX1_init_24 : decode cX1_init 24 = .ok (.aload_n 2, 1) := by decide +kernel
theorem dX1_init_25 : decode cX1_init 25 = .ok (.putfield 23, 3) := by decide +kernel
theorem dX1_init_28 : decode cX1_init 28 = .ok (.return_, 1) := by decide +kernel
theorem dX1_meantOf_0 : decode cX1_meantOf 0 = .ok (.aload_n 0, 1) := by decide +kernel
theorem dX1_meantOf_1 : decode cX1_meantOf 1 = .ok (.getfield 19, 3) := by decide +kernel
theorem dX1_meantOf_4 : decode cX1_meantOf 4 = .ok (.getfield 27, 3) := by decide +kernel
theorem dX1_meantOf_7 : decode cX1_meantOf 7 = .ok (.ifCond .ne 7, 3) := by decide +kernel
theorem dX1_meantOf_10 : decode cX1_meantOf 10 = .ok (.iconst (-1), 1) := by decide +kernel
theorem dX1_meantOf_11 : decode cX1_meantOf 11 = .ok (.goto 8, 3) := by decide +kernel
theorem dX1_meantOf_14 : decode cX1_meantOf 14 = .ok (.aload_n 1, 1) := by decide +kernel
theorem dX1_meantOf_15 : decode cX1_meantOf 15 = .ok (.iconst (-1), 1) := by decide +kernel
theorem dX1_meantOf_16 : decode cX1_meantOf 16 = .ok (.invokevirtual 32, 3) := by decide +kernel
theorem dX1_meantOf_19 : decode cX1_meantOf 19 = .ok (.ireturn, 1) := by decide +kernel
theorem dX1_measureAll_0 : decode cX1_measureAll 0 = .ok (.iconst 0, 1) := by decide +kernel
theorem dX1_measureAll_1 : decode cX1_measureAll 1 = .ok (.istore_n 3, 1) := by decide +kernel
theorem dX1_measureAll_2 : decode cX1_measureAll 2 = .ok (.iload_n 3, 1) := by decide +kernel
theorem dX1_measureAll_3 : decode cX1_measureAll 3 = .ok (.aload_n 2, 1) := by decide +kernel
theorem dX1_measureAll_4 : decode cX1_measureAll 4 = .ok (.getfield 38, 3) := by decide +kernel
theorem dX1_measureAll_7 : decode cX1_measureAll 7 = .ok (.if_icmp .ge 19, 3) := by decide +kernel
theorem dX1_measureAll_10 : decode cX1_measureAll 10 = .ok (.aload_n 0, 1) := by decide +kernel
theorem dX1_measureAll_11 : decode cX1_measureAll 11 = .ok (.aload_n 1, 1) := by decide +kernel
theorem dX1_measureAll_12 : decode cX1_measureAll 12 = .ok (.aload_n 2, 1) := by decide +kernel
theorem dX1_measureAll_13 : decode cX1_measureAll 13 = .ok (.iload_n 3, 1) := by decide +kernel
theorem dX1_measureAll_14 : decode cX1_measureAll 14 = .ok (.invokevirtual 41, 3) := by decide +kernel
theorem dX1_measureAll_17 : decode cX1_measureAll 17 = .ok (.invokevirtual 45, 3) := by decide +kernel
theorem dX1_measureAll_20 : decode cX1_measureAll 20 = .ok (.iinc 3 1, 3) := by decide +kernel
theorem dX1_measureAll_23 : decode cX1_measureAll 23 = .ok (.goto (-21), 3) := by decide +kernel
theorem dX1_measureAll_26 : decode cX1_measureAll 26 = .ok (.return_, 1) := by decide +kernel
theorem dX1_measure_0 : decode cX1_measure 0 = .ok (.aload_n 2, 1) := by decide +kernel
theorem dX1_measure_1 : decode cX1_measure 1 = .ok (.aload_n 0, 1) := by decide +kernel
theorem dX1_measure_2 : decode cX1_measure 2 = .ok (.getfield 19, 3) := by decide +kernel
theorem dX1_measure_5 : decode cX1_measure 5 = .ok (.getfield 27, 3) := by decide +kernel
theorem dX1_measure_8 : decode cX1_measure 8 = .ok (.ifCond .ne 9, 3) := by decide +kernel
theorem dX1_measure_11 : decode cX1_measure 11 = .ok (.sipush 999, 3) := by decide +kernel
theorem dX1_measure_14 : decode cX1_measure 14 = .ok (.goto 22, 3) := by decide +kernel
theorem dX1_measure_17 : decode cX1_measure 17 = .ok (.aload_n 0, 1) := by decide +kernel
theorem dX1_measure_18 : decode cX1_measure 18 = .ok (.getfield 23, 3) := by decide +kernel
theorem dX1_measure_21 : decode cX1_measure 21 = .ok (.aload_n 2, 1) := by decide +kernel
theorem dX1_measure_22 : decode cX1_measure 22 = .ok (.getfield 49, 3) := by decide +kernel
theorem dX1_measure_25 : decode cX1_measure 25 = .ok (.aload_n 0, 1) := by decide +kernel
theorem dX1_measure_26 : decode cX1_measure 26 = .ok (.getfield 19, 3) := by decide +kernel
theorem dX1_measure_29 : decode cX1_measure 29 = .ok (.aload_n 1, 1) := by decide +kernel
theorem dX1_measure_30 : decode cX1_measure 30 = .ok (.getfield 54, 3) := by decide +kernel
theorem dX1_measure_33 : decode cX1_measure 33 = .ok (.invokevirtual 59, 3) := by decide +kernel
theorem dX1_measure_36 : decode cX1_measure 36 = .ok (.putfield 65, 3) := by decide +kernel
theorem dX1_measure_39 : decode cX1_measure 39 = .ok (.return_, 1) := by decide +kernel
theorem dX1_passOne_0 : decode cX1_passOne 0 = .ok (.iconst 0, 1) := by decide +kernel
theorem dX1_passOne_1 : decode cX1_passOne 1 = .ok (.istore_n 3, 1) := by decide +kernel
theorem dX1_passOne_2 : decode cX1_passOne 2 = .ok (.iconst 0, 1) := by decide +kernel
theorem dX1_passOne_3 : decode cX1_passOne 3 = .ok (.istore 4, 2) := by decide +kernel
theorem dX1_passOne_5 : decode cX1_passOne 5 = .ok (.iload 4, 2) := by decide +kernel
theorem dX1_passOne_7 : decode cX1_passOne 7 = .ok (.aload_n 1, 1) := by decide +kernel
theorem dX1_passOne_8 : decode cX1_passOne 8 = .ok (.getfield 67, 3) := by decide +kernel
theorem dX1_passOne_11 : decode cX1_passOne 11 = .ok (.if_icmp .ge 42, 3) := by decide +kernel
theorem dX1_passOne_14 : decode cX1_passOne 14 = .ok (.aload_n 1, 1) := by decide +kernel
theorem dX1_passOne_15 : decode cX1_passOne 15 = .ok (.iload 4, 2) := by decide +kernel
theorem dX1_passOne_17 : decode cX1_passOne 17 = .ok (.invokevirtual 68, 3) := by decide +kernel
theorem dX1_passOne_20 : decode cX1_passOne 20 = .ok (.astore 5, 2) := by decide +kernel
theorem dX1_passOne_22 : decode cX1_passOne 22 = .ok (.aload_n 0, 1) := by decide +kernel
theorem dX1_passOne_23 : decode cX1_passOne 23 = .ok (.aload_n 1, 1) := by decide +kernel
theorem dX1_passOne_24 : decode cX1_passOne 24 = .ok (.aload_n 2, 1) := by decide +kernel
theorem dX1_passOne_25 : decode cX1_passOne 25 = .ok (.aload 5, 2) := by decide +kernel
theorem dX1_passOne_27 : decode cX1_passOne 27 = .ok (.invokevirtual 72, 3) := by decide +kernel
theorem dX1_passOne_30 : decode cX1_passOne 30 = .ok (.ifCond .eq 17, 3) := by decide +kernel
theorem dX1_passOne_33 : decode cX1_passOne 33 = .ok (.aload_n 0, 1) := by decide +kernel
theorem dX1_passOne_34 : decode cX1_passOne 34 = .ok (.aload_n 1, 1) := by decide +kernel
theorem dX1_passOne_35 : decode cX1_passOne 35 = .ok (.aload_n 2, 1) := by decide +kernel
theorem dX1_passOne_36 : decode cX1_passOne 36 = .ok (.aload 5, 2) := by decide +kernel
theorem dX1_passOne_38 : decode cX1_passOne 38 = .ok (.invokevirtual 76, 3) := by decide +kernel
theorem dX1_passOne_41 : decode cX1_passOne 41 = .ok (.ifCond .eq 6, 3) := by decide +kernel
theorem dX1_passOne_44 : decode cX1_passOne 44 = .ok (.iinc 3 1, 3) := by decide +kernel
theorem dX1_passOne_47 : decode cX1_passOne 47 = .ok (.iinc 4 1, 3) := by decide +kernel
theorem dX1_passOne_50 : decode cX1_passOne 50 = .ok (.goto (-45), 3) := by decide +kernel
theorem dX1_passOne_53 : decode cX1_passOne 53 = .ok (.aload_n 2, 1) := by decide +kernel
theorem dX1_passOne_54 : decode cX1_passOne 54 = .ok (.dup, 1) := by decide +kernel
theorem dX1_passOne_55 : decode cX1_passOne 55 = .ok (.getfield 79, 3) := by decide +kernel
theorem dX1_passOne_58 : decode cX1_passOne 58 = .ok (.iconst 1, 1) := by decide +kernel
theorem dX1_passOne_59 : decode cX1_passOne 59 = .ok (.iadd, 1) := by decide +kernel
theorem dX1_passOne_60 : decode cX1_passOne 60 = .ok (.putfield 79, 3) := by decide +kernel
theorem dX1_passOne_63 : decode cX1_passOne 63 = .ok (.aload_n 2, 1) := by decide +kernel
theorem dX1_passOne_64 : decode cX1_passOne 64 = .ok (.dup, 1) := by decide +kernel
theorem dX1_passOne_65 : decode cX1_passOne 65 = .ok (.getfield 82, 3) := by decide +kernel
theorem dX1_passOne_68 : decode cX1_passOne 68 = .ok (.iload_n 3, 1) := by decide +kernel
theorem dX1_passOne_69 : decode cX1_passOne 69 = .ok (.iadd, 1) := by decide +kernel
theorem dX1_passOne_70 : decode cX1_passOne 70 = .ok (.putfield 82, 3) := by decide +kernel
theorem dX1_passOne_73 : decode cX1_passOne 73 = .ok (.iload_n 3, 1) := by decide +kernel
theorem dX1_passOne_74 : decode cX1_passOne 74 = .ok (.ireturn, 1) := by decide +kernel
theorem dX1_holds_0 : decode cX1_holds 0 = .ok (.aload_n 3, 1) := by decide +kernel
theorem dX1_holds_1 : decode cX1_holds 1 = .ok (.getfield 85, 3) := by decide +kernel
theorem dX1_holds_4 : decode cX1_holds 4 = .ok (.aload_n 3, 1) := by decide +kernel
theorem dX1_holds_5 : decode cX1_holds 5 = .ok (.getfield 90, 3) := by decide +kernel
theorem dX1_holds_8 : decode cX1_holds 8 = .ok (.if_icmp .eq 20, 3) := by decide +kernel
theorem dX1_holds_11 : decode cX1_holds 11 = .ok (.aload_n 0, 1) := by decide +kernel
theorem dX1_holds_12 : decode cX1_holds 12 = .ok (.aload_n 1, 1) := by decide +kernel
theorem dX1_holds_13 : decode cX1_holds 13 = .ok (.aload_n 2, 1) := by decide +kernel
theorem dX1_holds_14 : decode cX1_holds 14 = .ok (.aload_n 3, 1) := by decide +kernel
theorem dX1_holds_15 : decode cX1_holds 15 = .ok (.getfield 85, 3) := by decide +kernel
theorem dX1_holds_18 : decode cX1_holds 18 = .ok (.aload_n 3, 1) := by decide +kernel
theorem dX1_holds_19 : decode cX1_holds 19 = .ok (.getfield 90, 3) := by decide +kernel
theorem dX1_holds_22 : decode cX1_holds 22 = .ok (.invokevirtual 93, 3) := by decide +kernel
theorem dX1_holds_25 : decode cX1_holds 25 = .ok (.ifCond .eq 7, 3) := by decide +kernel
theorem dX1_holds_28 : decode cX1_holds 28 = .ok (.iconst 1, 1) := by decide +kernel
theorem dX1_holds_29 : decode cX1_holds 29 = .ok (.goto 4, 3) := by decide +kernel
theorem dX1_holds_32 : decode cX1_holds 32 = .ok (.iconst 0, 1) := by decide +kernel
theorem dX1_holds_33 : decode cX1_holds 33 = .ok (.ireturn, 1) := by decide +kernel
theorem dX1_changes_0 : decode cX1_changes 0 = .ok (.aload_n 2, 1) := by decide +kernel
theorem dX1_changes_1 : decode cX1_changes 1 = .ok (.aload_n 3, 1) := by decide +kernel
theorem dX1_changes_2 : decode cX1_changes 2 = .ok (.getfield 97, 3) := by decide +kernel
theorem dX1_changes_5 : decode cX1_changes 5 = .ok (.invokevirtual 41, 3) := by decide +kernel
theorem dX1_changes_8 : decode cX1_changes 8 = .ok (.astore 4, 2) := by decide +kernel
theorem dX1_changes_10 : decode cX1_changes 10 = .ok (.aload_n 3, 1) := by decide +kernel
theorem dX1_changes_11 : decode cX1_changes 11 = .ok (.getfield 99, 3) := by decide +kernel
theorem dX1_changes_14 : decode cX1_changes 14 = .ok (.getstatic 103, 3) := by decide +kernel
theorem dX1_changes_17 : decode cX1_changes 17 = .ok (.if_acmp .ne 42, 3) := by decide +kernel
theorem dX1_changes_20 : decode cX1_changes 20 = .ok (.aload 4, 2) := by decide +kernel
theorem dX1_changes_22 : decode cX1_changes 22 = .ok (.getfield 49, 3) := by decide +kernel
theorem dX1_changes_25 : decode cX1_changes 25 = .ok (.aload_n 0, 1) := by decide +kernel
theorem dX1_changes_26 : decode cX1_changes 26 = .ok (.aload_n 1, 1) := by decide +kernel
theorem dX1_changes_27 : decode cX1_changes 27 = .ok (.aload_n 2, 1) := by decide +kernel
theorem dX1_changes_28 : decode cX1_changes 28 = .ok (.aload_n 3, 1) := by decide +kernel
theorem dX1_changes_29 : decode cX1_changes 29 = .ok (.getfield 108, 3) := by decide +kernel
theorem dX1_changes_32 : decode cX1_changes 32 = .ok (.aload_n 3, 1) := by decide +kernel
theorem dX1_changes_33 : decode cX1_changes 33 = .ok (.getfield 85, 3) := by decide +kernel
theorem dX1_changes_36 : decode cX1_changes 36 = .ok (.invokevirtual 93, 3) := by decide +kernel
theorem dX1_changes_39 : decode cX1_changes 39 = .ok (.invokevirtual 111, 3) := by decide +kernel
theorem dX1_changes_42 : decode cX1_changes 42 = .ok (.istore 5, 2) := by decide +kernel
theorem dX1_changes_44 : decode cX1_changes 44 = .ok (.iload 5, 2) := by decide +kernel
theorem dX1_changes_46 : decode cX1_changes 46 = .ok (.ifCond .eq 10, 3) := by decide +kernel
theorem dX1_changes_49 : decode cX1_changes 49 = .ok (.aload_n 0, 1) := by decide +kernel
theorem dX1_changes_50 : decode cX1_changes 50 = .ok (.aload_n 1, 1) := by decide +kernel
theorem dX1_changes_51 : decode cX1_changes 51 = .ok (.aload 4, 2) := by decide +kernel
theorem dX1_changes_53 : decode cX1_changes 53 = .ok (.invokevirtual 45, 3) := by decide +kernel
theorem dX1_changes_56 : decode cX1_changes 56 = .ok (.iload 5, 2) := by decide +kernel
theorem dX1_changes_58 : decode cX1_changes 58 = .ok (.ireturn, 1) := by decide +kernel
theorem dX1_changes_59 : decode cX1_changes 59 = .ok (.aload_n 3, 1) := by decide +kernel
theorem dX1_changes_60 : decode cX1_changes 60 = .ok (.getfield 99, 3) := by decide +kernel
theorem dX1_changes_63 : decode cX1_changes 63 = .ok (.getstatic 115, 3) := by decide +kernel
theorem dX1_changes_66 : decode cX1_changes 66 = .ok (.if_acmp .ne 7, 3) := by decide +kernel
theorem dX1_changes_69 : decode cX1_changes 69 = .ok (.iconst 1, 1) := by decide +kernel
theorem dX1_changes_70 : decode cX1_changes 70 = .ok (.goto 4, 3) := by decide +kernel
theorem dX1_changes_73 : decode cX1_changes 73 = .ok (.iconst 0, 1) := by decide +kernel
theorem dX1_changes_74 : decode cX1_changes 74 = .ok (.istore 5, 2) := by decide +kernel
theorem dX1_changes_76 : decode cX1_changes 76 = .ok (.aload 4, 2) := by decide +kernel
theorem dX1_changes_78 : decode cX1_changes 78 = .ok (.getfield 118, 3) := by decide +kernel
theorem dX1_changes_81 : decode cX1_changes 81 = .ok (.iload 5, 2) := by decide +kernel
theorem dX1_changes_83 : decode cX1_changes 83 = .ok (.if_icmp .eq 7, 3) := by decide +kernel
theorem dX1_changes_86 : decode cX1_changes 86 = .ok (.iconst 1, 1) := by decide +kernel
theorem dX1_changes_87 : decode cX1_changes 87 = .ok (.goto 4, 3) := by decide +kernel
theorem dX1_changes_90 : decode cX1_changes 90 = .ok (.iconst 0, 1) := by decide +kernel
theorem dX1_changes_91 : decode cX1_changes 91 = .ok (.istore 6, 2) := by decide +kernel
theorem dX1_changes_93 : decode cX1_changes 93 = .ok (.aload 4, 2) := by decide +kernel
theorem dX1_changes_95 : decode cX1_changes 95 = .ok (.iload 5, 2) := by decide +kernel
theorem dX1_changes_97 : decode cX1_changes 97 = .ok (.putfield 118, 3) := by decide +kernel
theorem dX1_changes_100 : decode cX1_changes 100 = .ok (.iload 6, 2) := by decide +kernel
theorem dX1_changes_102 : decode cX1_changes 102 = .ok (.ireturn, 1) := by decide +kernel
theorem dX1_reckon_0 : decode cX1_reckon 0 = .ok (.aload_n 0, 1) := by decide +kernel
theorem dX1_reckon_1 : decode cX1_reckon 1 = .ok (.iconst 0, 1) := by decide +kernel
theorem dX1_reckon_2 : decode cX1_reckon 2 = .ok (.putfield 15, 3) := by decide +kernel
theorem dX1_reckon_5 : decode cX1_reckon 5 = .ok (.iload_n 3, 1) := by decide +kernel
theorem dX1_reckon_6 : decode cX1_reckon 6 = .ok (.istore 5, 2) := by decide +kernel
theorem dX1_reckon_8 : decode cX1_reckon 8 = .ok (.iload 5, 2) := by decide +kernel
theorem dX1_reckon_10 : decode cX1_reckon 10 = .ok (.iload 4, 2) := by decide +kernel
theorem dX1_reckon_12 : decode cX1_reckon 12 = .ok (.if_icmp .ge 117, 3) := by decide +kernel
theorem dX1_reckon_15 : decode cX1_reckon 15 = .ok (.aload_n 1, 1) := by decide +kernel
theorem dX1_reckon_16 : decode cX1_reckon 16 = .ok (.iload 5, 2) := by decide +kernel
theorem dX1_reckon_18 : decode cX1_reckon 18 = .ok (.invokevirtual 122, 3) := by decide +kernel
theorem dX1_reckon_21 : decode cX1_reckon 21 = .ok (.astore 6, 2) := by decide +kernel
theorem dX1_reckon_23 : decode cX1_reckon 23 = .ok (.aload 6, 2) := by decide +kernel
theorem dX1_reckon_25 : decode cX1_reckon 25 = .ok (.getstatic 126, 3) := by decide +kernel
theorem dX1_reckon_28 : decode cX1_reckon 28 = .ok (.if_acmp .ne 15, 3) := by decide +kernel
theorem dX1_reckon_31 : decode cX1_reckon 31 = .ok (.aload_n 0, 1) := by decide +kernel
theorem dX1_reckon_32 : decode cX1_reckon 32 = .ok (.aload_n 0, 1) := by decide +kernel
theorem dX1_reckon_33 : decode cX1_reckon 33 = .ok (.invokevirtual 129, 3) := by decide +kernel
theorem dX1_reckon_36 : decode cX1_reckon 36 = .ok (.ineg, 1) := by decide +kernel
theorem dX1_reckon_37 : decode cX1_reckon 37 = .ok (.invokevirtual 133, 3) := by decide +kernel
theorem dX1_reckon_40 : decode cX1_reckon 40 = .ok (.goto 83, 3) := by decide +kernel
theorem dX1_reckon_43 : decode cX1_reckon 43 = .ok (.aload 6, 2) := by decide +kernel
theorem dX1_reckon_45 : decode cX1_reckon 45 = .ok (.getstatic 137, 3) := by decide +kernel
theorem dX1_reckon_48 : decode cX1_reckon 48 = .ok (.if_acmp .ne 22, 3) := by decide +kernel
theorem dX1_reckon_51 : decode cX1_reckon 51 = .ok (.aload_n 0, 1) := by decide +kernel
theorem dX1_reckon_52 : decode cX1_reckon 52 = .ok (.aload_n 0, 1) := by decide +kernel
theorem dX1_reckon_53 : decode cX1_reckon 53 = .ok (.invokevirtual 129, 3) := by decide +kernel
theorem dX1_reckon_56 : decode cX1_reckon 56 = .ok (.ifCond .ne 7, 3) := by decide +kernel
theorem dX1_reckon_59 : decode cX1_reckon 59 = .ok (.iconst 1, 1) := by decide +kernel
theorem dX1_reckon_60 : decode cX1_reckon 60 = .ok (.goto 4, 3) := by decide +kernel
theorem dX1_reckon_63 : decode cX1_reckon 63 = .ok (.iconst 0, 1) := by decide +kernel
theorem dX1_reckon_64 : decode cX1_reckon 64 = .ok (.invokevirtual 133, 3) := by decide +kernel
theorem dX1_reckon_67 : decode cX1_reckon 67 = .ok (.goto 56, 3) := by decide +kernel
theorem dX1_reckon_70 : decode cX1_reckon 70 = .ok (.aload 6, 2) := by decide +kernel
theorem dX1_reckon_72 : decode cX1_reckon 72 = .ok (.invokestatic 140, 3) := by decide +kernel
theorem dX1_reckon_75 : decode cX1_reckon 75 = .ok (.ifCond .eq 31, 3) := by decide +kernel
theorem dX1_reckon_78 : decode cX1_reckon 78 = .ok (.aload_n 0, 1) := by decide +kernel
theorem dX1_reckon_79 : decode cX1_reckon 79 = .ok (.invokevirtual 129, 3) := by decide +kernel
theorem dX1_reckon_82 : decode cX1_reckon 82 = .ok (.istore 7, 2) := by decide +kernel
theorem dX1_reckon_84 : decode cX1_reckon 84 = .ok (.aload_n 0, 1) := by decide +kernel
theorem dX1_reckon_85 : decode cX1_reckon 85 = .ok (.invokevirtual 129, 3) := by decide +kernel
theorem dX1_reckon_88 : decode cX1_reckon 88 = .ok (.istore 8, 2) := by decide +kernel
theorem dX1_reckon_90 : decode cX1_reckon 90 = .ok (.aload_n 0, 1) := by decide +kernel
theorem dX1_reckon_91 : decode cX1_reckon 91 = .ok (.aload 6, 2) := by decide +kernel
theorem dX1_reckon_93 : decode cX1_reckon 93 = .ok (.iload 8, 2) := by decide +kernel
theorem dX1_reckon_95 : decode cX1_reckon 95 = .ok (.iload 7, 2) := by decide +kernel
theorem dX1_reckon_97 : decode cX1_reckon 97 = .ok (.invokestatic 144, 3) := by decide +kernel
theorem dX1_reckon_100 : decode cX1_reckon 100 = .ok (.invokevirtual 133, 3) := by decide +kernel
theorem dX1_reckon_103 : decode cX1_reckon 103 = .ok (.goto 20, 3) := by decide +kernel
theorem dX1_reckon_106 : decode cX1_reckon 106 = .ok (.aload_n 0, 1) := by decide +kernel
theorem dX1_reckon_107 : decode cX1_reckon 107 = .ok (.aload_n 0, 1) := by decide +kernel
theorem dX1_reckon_108 : decode cX1_reckon 108 = .ok (.aload_n 2, 1) := by decide +kernel
theorem dX1_reckon_109 : decode cX1_reckon 109 = .ok (.aload 6, 2) := by decide +kernel
theorem dX1_reckon_111 : decode cX1_reckon 111 = .ok (.aload_n 1, 1) := by decide +kernel
theorem dX1_reckon_112 : decode cX1_reckon 112 = .ok (.iload 5, 2) := by decide +kernel
theorem dX1_reckon_114 : decode cX1_reckon 114 = .ok (.invokevirtual 148, 3) := by decide +kernel
theorem dX1_reckon_117 : decode cX1_reckon 117 = .ok (.invokevirtual 151, 3) := by decide +kernel
theorem dX1_reckon_120 : decode cX1_reckon 120 = .ok (.invokevirtual 133, 3) := by decide +kernel
theorem dX1_reckon_123 : decode cX1_reckon 123 = .ok (.iinc 5 1, 3) := by decide +kernel
theorem dX1_reckon_126 : decode cX1_reckon 126 = .ok (.goto (-118), 3) := by decide +kernel
theorem dX1_reckon_129 : decode cX1_reckon 129 = .ok (.aload_n 0, 1) := by decide +kernel
theorem dX1_reckon_130 : decode cX1_reckon 130 = .ok (.invokevirtual 129, 3) := by decide +kernel
theorem dX1_reckon_133 : decode cX1_reckon 133 = .ok (.ireturn, 1) := by decide +kernel
theorem dX1_push_0 : decode cX1_push 0 = .ok (.aload_n 0, 1) := by decide +kernel
theorem dX1_push_1 : decode cX1_push 1 = .ok (.getfield 15, 3) := by decide +kernel
theorem dX1_push_4 : decode cX1_push 4 = .ok (.ifCond .lt 35, 3) := by decide +kernel
theorem dX1_push_7 : decode cX1_push 7 = .ok (.aload_n 0, 1) := by decide +kernel
theorem dX1_push_8 : decode cX1_push 8 = .ok (.getfield 15, 3) := by decide +kernel
theorem dX1_push_11 : decode cX1_push 11 = .ok (.aload_n 0, 1) := by decide +kernel
theorem dX1_push_12 : decode cX1_push 12 = .ok (.getfield 9, 3) := by decide +kernel
theorem dX1_push_15 : decode cX1_push 15 = .ok (.arraylength, 1) := by decide +kernel
theorem dX1_push_16 : decode cX1_push 16 = .ok (.if_icmp .ge 23, 3) := by decide +kernel
theorem dX1_push_19 : decode cX1_push 19 = .ok (.aload_n 0, 1) := by decide +kernel
theorem dX1_push_20 : decode cX1_push 20 = .ok (.getfield 9, 3) := by decide +kernel
theorem dX1_push_23 : decode cX1_push 23 = .ok (.aload_n 0, 1) := by decide +kernel
theorem dX1_push_24 : decode cX1_push 24 = .ok (.getfield 15, 3) := by decide +kernel
theorem dX1_push_27 : decode cX1_push 27 = .ok (.iload_n 1, 1) := by decide +kernel
theorem dX1_push_28 : decode cX1_push 28 = .ok (.iastore, 1) := by decide +kernel
theorem dX1_push_29 : decode cX1_push 29 = .ok (.aload_n 0, 1) := by decide +kernel
theorem dX1_push_30 : decode cX1_push 30 = .ok (.dup, 1) := by decide +kernel
theorem dX1_push_31 : decode cX1_push 31 = .ok (.getfield 15, 3) := by decide +kernel
theorem dX1_push_34 : decode cX1_push 34 = .ok (.iconst 1, 1) := by decide +kernel
theorem dX1_push_35 : decode cX1_push 35 = .ok (.iadd, 1) := by decide +kernel
theorem dX1_push_36 : decode cX1_push 36 = .ok (.putfield 15, 3) := by decide +kernel
theorem dX1_push_39 : decode cX1_push 39 = .ok (.return_, 1) := by decide +kernel
theorem dX1_pop_0 : decode cX1_pop 0 = .ok (.aload_n 0, 1) := by decide +kernel
theorem dX1_pop_1 : decode cX1_pop 1 = .ok (.getfield 15, 3) := by decide +kernel
theorem dX1_pop_4 : decode cX1_pop 4 = .ok (.iconst 1, 1) := by decide +kernel
theorem dX1_pop_5 : decode cX1_pop 5 = .ok (.if_icmp .lt 15, 3) := by decide +kernel
theorem dX1_pop_8 : decode cX1_pop 8 = .ok (.aload_n 0, 1) := by decide +kernel
theorem dX1_pop_9 : decode cX1_pop 9 = .ok (.getfield 15, 3) := by decide +kernel
theorem dX1_pop_12 : decode cX1_pop 12 = .ok (.aload_n 0, 1) := by decide +kernel
theorem dX1_pop_13 : decode cX1_pop 13 = .ok (.getfield 9, 3) := by decide +kernel
theorem dX1_pop_16 : decode cX1_pop 16 = .ok (.arraylength, 1) := by decide +kernel
theorem dX1_pop_17 : decode cX1_pop 17 = .ok (.if_icmp .le 5, 3) := by decide +kernel
theorem dX1_pop_20 : decode cX1_pop 20 = .ok (.iconst 0, 1) := by decide +kernel
theorem dX1_pop_21 : decode cX1_pop 21 = .ok (.ireturn, 1) := by decide +kernel
theorem dX1_pop_22 : decode cX1_pop 22 = .ok (.aload_n 0, 1) := by decide +kernel
theorem dX1_pop_23 : decode cX1_pop 23 = .ok (.dup, 1) := by decide +kernel
theorem dX1_pop_24 : decode cX1_pop 24 = .ok (.getfield 15, 3) := by decide +kernel
theorem dX1_pop_27 : decode cX1_pop 27 = .ok (.iconst 1, 1) := by decide +kernel
theorem dX1_pop_28 : decode cX1_pop 28 = .ok (.isub, 1) := by decide +kernel
theorem dX1_pop_29 : decode cX1_pop 29 = .ok (.putfield 15, 3) := by decide +kernel
theorem dX1_pop_32 : decode cX1_pop 32 = .ok (.aload_n 0, 1) := by decide +kernel
theorem dX1_pop_33 : decode cX1_pop 33 = .ok (.getfield 9, 3) := by decide +kernel
theorem dX1_pop_36 : decode cX1_pop 36 = .ok (.aload_n 0, 1) := by decide +kernel
theorem dX1_pop_37 : decode cX1_pop 37 = .ok (.getfield 15, 3) := by decide +kernel
theorem dX1_pop_40 : decode cX1_pop 40 = .ok (.iaload, 1) := by decide +kernel
theorem dX1_pop_41 : decode cX1_pop 41 = .ok (.ireturn, 1) := by decide +kernel
theorem dX1_found_0 : decode cX1_found 0 = .ok (.getstatic 155, 3) := by decide +kernel
theorem dX1_found_3 : decode cX1_found 3 = .ok (.aload_n 2, 1) := by decide +kernel
theorem dX1_found_4 : decode cX1_found 4 = .ok (.invokevirtual 160, 3) := by decide +kernel
theorem dX1_found_7 : decode cX1_found 7 = .ok (.iaload, 1) := by decide +kernel
theorem dX1_found_8 : decode cX1_found 8 = .ok (.tableswitch 103 1 6 #[40, 45, 50, 59, 71, 86], 40) := by decide +kernel
theorem dX1_found_48 : decode cX1_found 48 = .ok (.aload_n 1, 1) := by decide +kernel
theorem dX1_found_49 : decode cX1_found 49 = .ok (.getfield 79, 3) := by decide +kernel
theorem dX1_found_52 : decode cX1_found 52 = .ok (.ireturn, 1) := by decide +kernel
theorem dX1_found_53 : decode cX1_found 53 = .ok (.aload_n 1, 1) := by decide +kernel
theorem dX1_found_54 : decode cX1_found 54 = .ok (.invokevirtual 163, 3) := by decide +kernel
theorem dX1_found_57 : decode cX1_found 57 = .ok (.ireturn, 1) := by decide +kernel
theorem dX1_found_58 : decode cX1_found 58 = .ok (.aload_n 1, 1) := by decide +kernel
theorem dX1_found_59 : decode cX1_found 59 = .ok (.iload_n 3, 1) := by decide +kernel
theorem dX1_found_60 : decode cX1_found 60 = .ok (.invokevirtual 41, 3) := by decide +kernel
theorem dX1_found_63 : decode cX1_found 63 = .ok (.getfield 65, 3) := by decide +kernel
theorem dX1_found_66 : decode cX1_found 66 = .ok (.ireturn, 1) := by decide +kernel
theorem dX1_found_67 : decode cX1_found 67 = .ok (.aload_n 1, 1) := by decide +kernel
theorem dX1_found_68 : decode cX1_found 68 = .ok (.iload_n 3, 1) := by decide +kernel
theorem dX1_found_69 : decode cX1_found 69 = .ok (.invokevirtual 41, 3) := by decide +kernel
theorem dX1_found_72 : decode cX1_found 72 = .ok (.getfield 49, 3) := by decide +kernel
theorem dX1_found_75 : decode cX1_found 75 = .ok (.getfield 27, 3) := by decide +kernel
theorem dX1_found_78 : decode cX1_found 78 = .ok (.ireturn, 1) := by decide +kernel
theorem dX1_found_79 : decode cX1_found 79 = .ok (.aload_n 0, 1) := by decide +kernel
theorem dX1_found_80 : decode cX1_found 80 = .ok (.aload_n 1, 1) := by decide +kernel
theorem dX1_found_81 : decode cX1_found 81 = .ok (.invokevirtual 166, 3) := by decide +kernel
theorem dX1_found_84 : decode cX1_found 84 = .ok (.iload_n 3, 1) := by decide +kernel
theorem dX1_found_85 : decode cX1_found 85 = .ok (.if_icmp .ne 7, 3) := by decide +kernel
theorem dX1_found_88 : decode cX1_found 88 = .ok (.iconst 1, 1) := by decide +kernel
theorem dX1_found_89 : decode cX1_found 89 = .ok (.goto 4, 3) := by decide +kernel
theorem dX1_found_92 : decode cX1_found 92 = .ok (.iconst 0, 1) := by decide +kernel
theorem dX1_found_93 : decode cX1_found 93 = .ok (.ireturn, 1) := by decide +kernel
theorem dX1_found_94 : decode cX1_found 94 = .ok (.aload_n 1, 1) := by decide +kernel
theorem dX1_found_95 : decode cX1_found 95 = .ok (.iload_n 3, 1) := by decide +kernel
theorem dX1_found_96 : decode cX1_found 96 = .ok (.invokevirtual 41, 3) := by decide +kernel
theorem dX1_found_99 : decode cX1_found 99 = .ok (.getfield 118, 3) := by decide +kernel
theorem dX1_found_102 : decode cX1_found 102 = .ok (.ifCond .eq 7, 3) := by decide +kernel
theorem dX1_found_105 : decode cX1_found 105 = .ok (.iconst 1, 1) := by decide +kernel
theorem dX1_found_106 : decode cX1_found 106 = .ok (.goto 4, 3) := by decide +kernel
theorem dX1_found_109 : decode cX1_found 109 = .ok (.iconst 0, 1) := by decide +kernel
theorem dX1_found_110 : decode cX1_found 110 = .ok (.ireturn, 1) := by decide +kernel
theorem dX1_found_111 : decode cX1_found 111 = .ok (.iload_n 3, 1) := by decide +kernel
theorem dX1_found_112 : decode cX1_found 112 = .ok (.ireturn, 1) := by decide +kernel
theorem dX1_isJoin_0 : decode cX1_isJoin 0 = .ok (.getstatic 155, 3) := by decide +kernel
theorem dX1_isJoin_3 : decode cX1_isJoin 3 = .ok (.aload_n 0, 1) := by decide +kernel
theorem dX1_isJoin_4 : decode cX1_isJoin 4 = .ok (.invokevirtual 160, 3) := by decide +kernel
theorem dX1_isJoin_7 : decode cX1_isJoin 7 = .ok (.iaload, 1) := by decide +kernel
theorem dX1_isJoin_8 : decode cX1_isJoin 8 = .ok (.tableswitch 70 7 19 #[68, 68, 68, 68, 68, 68, 68, 68, 68, 68, 68, 68, 68], 68) := by decide +kernel
theorem dX1_isJoin_76 : decode cX1_isJoin 76 = .ok (.iconst 1, 1) := by decide +kernel
theorem dX1_isJoin_77 : decode cX1_isJoin 77 = .ok (.ireturn, 1) := by decide +kernel
theorem dX1_isJoin_78 : decode cX1_isJoin 78 = .ok (.iconst 0, 1) := by decide +kernel
theorem dX1_isJoin_79 : decode cX1_isJoin 79 = .ok (.ireturn, 1) := by decide +kernel
theorem dX1_join_0 : decode cX1_join 0 = .ok (.getstatic 155, 3) := by decide +kernel
theorem dX1_join_3 : decode cX1_join 3 = .ok (.aload_n 0, 1) := by decide +kernel
theorem dX1_join_4 : decode cX1_join 4 = .ok (.invokevirtual 160, 3) := by decide +kernel
theorem dX1_join_7 : decode cX1_join 7 = .ok (.iaload, 1) := by decide +kernel
theorem dX1_join_8 : decode cX1_join 8 = .ok (.tableswitch 86 7 14 #[48, 52, 56, 62, 68, 72, 76, 80], 48) := by decide +kernel
theorem dX1_join_56 : decode cX1_join 56 = .ok (.iload_n 1, 1) := by decide +kernel
theorem dX1_join_57 : decode cX1_join 57 = .ok (.iload_n 2, 1) := by decide +kernel
theorem dX1_join_58 : decode cX1_join 58 = .ok (.iand, 1) := by decide +kernel
theorem dX1_join_59 : decode cX1_join 59 = .ok (.ireturn, 1) := by decide +kernel
theorem dX1_join_60 : decode cX1_join 60 = .ok (.iload_n 1, 1) := by decide +kernel
theorem dX1_join_61 : decode cX1_join 61 = .ok (.iload_n 2, 1) := by decide +kernel
theorem dX1_join_62 : decode cX1_join 62 = .ok (.ior, 1) := by decide +kernel
theorem dX1_join_63 : decode cX1_join 63 = .ok (.ireturn, 1) := by decide +kernel
theorem dX1_join_64 : decode cX1_join 64 = .ok (.iload_n 1, 1) := by decide +kernel
theorem dX1_join_65 : decode cX1_join 65 = .ok (.iload_n 2, 1) := by decide +kernel
theorem dX1_join_66 : decode cX1_join 66 = .ok (.invokestatic 170, 3) := by decide +kernel
theorem dX1_join_69 : decode cX1_join 69 = .ok (.ireturn, 1) := by decide +kernel
theorem dX1_join_70 : decode cX1_join 70 = .ok (.iload_n 1, 1) := by decide +kernel
theorem dX1_join_71 : decode cX1_join 71 = .ok (.iload_n 2, 1) := by decide +kernel
theorem dX1_join_72 : decode cX1_join 72 = .ok (.invokestatic 176, 3) := by decide +kernel
theorem dX1_join_75 : decode cX1_join 75 = .ok (.ireturn, 1) := by decide +kernel
theorem dX1_join_76 : decode cX1_join 76 = .ok (.iload_n 1, 1) := by decide +kernel
theorem dX1_join_77 : decode cX1_join 77 = .ok (.iload_n 2, 1) := by decide +kernel
theorem dX1_join_78 : decode cX1_join 78 = .ok (.iadd, 1) := by decide +kernel
theorem dX1_join_79 : decode cX1_join 79 = .ok (.ireturn, 1) := by decide +kernel
theorem dX1_join_80 : decode cX1_join 80 = .ok (.iload_n 1, 1) := by decide +kernel
theorem dX1_join_81 : decode cX1_join 81 = .ok (.iload_n 2, 1) := by decide +kernel
theorem dX1_join_82 : decode cX1_join 82 = .ok (.isub, 1) := by decide +kernel
theorem dX1_join_83 : decode cX1_join 83 = .ok (.ireturn, 1) := by decide +kernel
theorem dX1_join_84 : decode cX1_join 84 = .ok (.iload_n 1, 1) := by decide +kernel
theorem dX1_join_85 : decode cX1_join 85 = .ok (.iload_n 2, 1) := by decide +kernel
theorem dX1_join_86 : decode cX1_join 86 = .ok (.imul, 1) := by decide +kernel
theorem dX1_join_87 : decode cX1_join 87 = .ok (.ireturn, 1) := by decide +kernel
theorem dX1_join_88 : decode cX1_join 88 = .ok (.iload_n 1, 1) := by decide +kernel
theorem dX1_join_89 : decode cX1_join 89 = .ok (.iload_n 2, 1) := by decide +kernel
theorem dX1_join_90 : decode cX1_join 90 = .ok (.invokestatic 179, 3) := by decide +kernel
theorem dX1_join_93 : decode cX1_join 93 = .ok (.ireturn, 1) := by decide +kernel
theorem dX1_join_94 : decode cX1_join 94 = .ok (.aload_n 0, 1) := by decide +kernel
theorem dX1_join_95 : decode cX1_join 95 = .ok (.iload_n 1, 1) := by decide +kernel
theorem dX1_join_96 : decode cX1_join 96 = .ok (.iload_n 2, 1) := by decide +kernel
theorem dX1_join_97 : decode cX1_join 97 = .ok (.invokestatic 182, 3) := by decide +kernel
theorem dX1_join_100 : decode cX1_join 100 = .ok (.ifCond .eq 7, 3) := by decide +kernel
theorem dX1_join_103 : decode cX1_join 103 = .ok (.iconst 1, 1) := by decide +kernel
theorem dX1_join_104 : decode cX1_join 104 = .ok (.goto 4, 3) := by decide +kernel
theorem dX1_join_107 : decode cX1_join 107 = .ok (.iconst 0, 1) := by decide +kernel
theorem dX1_join_108 : decode cX1_join 108 = .ok (.ireturn, 1) := by decide +kernel
theorem dX1_compares_0 : decode cX1_compares 0 = .ok (.getstatic 155, 3) := by decide +kernel
theorem dX1_compares_3 : decode cX1_compares 3 = .ok (.aload_n 0, 1) := by decide +kernel
theorem dX1_compares_4 : decode cX1_compares 4 = .ok (.invokevirtual 160, 3) := by decide +kernel
theorem dX1_compares_7 : decode cX1_compares 7 = .ok (.iaload, 1) := by decide +kernel
theorem dX1_compares_8 : decode cX1_compares 8 = .ok (.tableswitch 80 15 19 #[36, 47, 80, 58, 69], 36) := by decide +kernel
theorem dX1_compares_44 : decode cX1_compares 44 = .ok (.iload_n 1, 1) := by decide +kernel
theorem dX1_compares_45 : decode cX1_compares 45 = .ok (.iload_n 2, 1) := by decide +kernel
theorem dX1_compares_46 : decode cX1_compares 46 = .ok (.if_icmp .ge 7, 3) := by decide +kernel
theorem dX1_compares_49 : decode cX1_compares 49 = .ok (.iconst 1, 1) := by decide +kernel
theorem dX1_compares_50 : decode cX1_compares 50 = .ok (.goto 4, 3) := by decide +kernel
theorem dX1_compares_53 : decode cX1_compares 53 = .ok (.iconst 0, 1) := by decide +kernel
theorem dX1_compares_54 : decode cX1_compares 54 = .ok (.ireturn, 1) := by decide +kernel
theorem dX1_compares_55 : decode cX1_compares 55 = .ok (.iload_n 1, 1) := by decide +kernel
theorem dX1_compares_56 : decode cX1_compares 56 = .ok (.iload_n 2, 1) := by decide +kernel
theorem dX1_compares_57 : decode cX1_compares 57 = .ok (.if_icmp .le 7, 3) := by decide +kernel
theorem dX1_compares_60 : decode cX1_compares 60 = .ok (.iconst 1, 1) := by decide +kernel
theorem dX1_compares_61 : decode cX1_compares 61 = .ok (.goto 4, 3) := by decide +kernel
theorem dX1_compares_64 : decode cX1_compares 64 = .ok (.iconst 0, 1) := by decide +kernel
theorem dX1_compares_65 : decode cX1_compares 65 = .ok (.ireturn, 1) := by decide +kernel
theorem dX1_compares_66 : decode cX1_compares 66 = .ok (.iload_n 1, 1) := by decide +kernel
theorem dX1_compares_67 : decode cX1_compares 67 = .ok (.iload_n 2, 1) := by decide +kernel
theorem dX1_compares_68 : decode cX1_compares 68 = .ok (.if_icmp .gt 7, 3) := by decide +kernel
theorem dX1_compares_71 : decode cX1_compares 71 = .ok (.iconst 1, 1) := by decide +kernel
theorem dX1_compares_72 : decode cX1_compares 72 = .ok (.goto 4, 3) := by decide +kernel
theorem dX1_compares_75 : decode cX1_compares 75 = .ok (.iconst 0, 1) := by decide +kernel
theorem dX1_compares_76 : decode cX1_compares 76 = .ok (.ireturn, 1) := by decide +kernel
theorem dX1_compares_77 : decode cX1_compares 77 = .ok (.iload_n 1, 1) := by decide +kernel
theorem dX1_compares_78 : decode cX1_compares 78 = .ok (.iload_n 2, 1) := by decide +kernel
theorem dX1_compares_79 : decode cX1_compares 79 = .ok (.if_icmp .lt 7, 3) := by decide +kernel
theorem dX1_compares_82 : decode cX1_compares 82 = .ok (.iconst 1, 1) := by decide +kernel
theorem dX1_compares_83 : decode cX1_compares 83 = .ok (.goto 4, 3) := by decide +kernel
theorem dX1_compares_86 : decode cX1_compares 86 = .ok (.iconst 0, 1) := by decide +kernel
theorem dX1_compares_87 : decode cX1_compares 87 = .ok (.ireturn, 1) := by decide +kernel
theorem dX1_compares_88 : decode cX1_compares 88 = .ok (.iload_n 1, 1) := by decide +kernel
theorem dX1_compares_89 : decode cX1_compares 89 = .ok (.iload_n 2, 1) := by decide +kernel
theorem dX1_compares_90 : decode cX1_compares 90 = .ok (.if_icmp .ne 7, 3) := by decide +kernel
theorem dX1_compares_93 : decode cX1_compares 93 = .ok (.iconst 1, 1) := by decide +kernel
theorem dX1_compares_94 : decode cX1_compares 94 = .ok (.goto 4, 3) := by decide +kernel
theorem dX1_compares_97 : decode cX1_compares 97 = .ok (.iconst 0, 1) := by decide +kernel
theorem dX1_compares_98 : decode cX1_compares 98 = .ok (.ireturn, 1) := by decide +kernel
theorem dX2_init_0 : decode cX2_init 0 = .ok (.aload_n 0, 1) := by decide +kernel
theorem dX2_init_1 : decode cX2_init 1 = .ok (.invokespecial 3, 3) := by decide +kernel
theorem dX2_init_4 : decode cX2_init 4 = .ok (.aload_n 0, 1) := by decide +kernel
theorem dX2_init_5 : decode cX2_init 5 = .ok (.bipush 8, 2) := by decide +kernel
theorem dX2_init_7 : decode cX2_init 7 = .ok (.newarray .int, 2) := by decide +kernel
theorem dX2_init_9 : decode cX2_init 9 = .ok (.putfield 9, 3) := by decide +kernel
theorem dX2_init_12 : decode cX2_init 12 = .ok (.aload_n 0, 1) := by decide +kernel
theorem dX2_init_13 : decode cX2_init 13 = .ok (.iconst (-1), 1) := by decide +kernel
theorem dX2_init_14 : decode cX2_init 14 = .ok (.putfield 15, 3) := by decide +kernel
theorem dX2_init_17 : decode cX2_init 17 = .ok (.aload_n 0, 1) := by decide +kernel
theorem dX2_init_18 : decode cX2_init 18 = .ok (.getstatic 19, 3) := by decide +kernel
theorem dX2_init_21 : decode cX2_init 21 = .ok (.putfield 25, 3) := by decide +kernel
theorem dX2_init_24 : decode cX2_init 24 = .ok (.aload_n 0, 1) := by decide +kernel
theorem dX2_init_25 : decode cX2_init 25 = .ok (.iconst 0, 1) := by decide +kernel
theorem dX2_init_26 : decode cX2_init 26 = .ok (.putfield 28, 3) := by decide +kernel
theorem dX2_init_29 : decode cX2_init 29 = .ok (.aload_n 0, 1) := by decide +kernel
theorem dX2_init_30 : decode cX2_init 30 = .ok (.iconst 0, 1) := by decide +kernel
theorem dX2_init_31 : decode cX2_init 31 = .ok (.putfield 31, 3) := by decide +kernel
theorem dX2_init_34 : decode cX2_init 34 = .ok (.aload_n 0, 1) := by decide +kernel
theorem dX2_init_35 : decode cX2_init 35 = .ok (.iconst 0, 1) := by decide +kernel
theorem dX2_init_36 : decode cX2_init 36 = .ok (.putfield 34, 3) := by decide +kernel
theorem dX2_init_39 : decode cX2_init 39 = .ok (.aload_n 0, 1) := by decide +kernel
theorem dX2_init_40 : decode cX2_init 40 = .ok (.iconst (-1), 1) := by decide +kernel
theorem dX2_init_41 : decode cX2_init 41 = .ok (.putfield 37, 3) := by decide +kernel
theorem dX2_init_44 : decode cX2_init 44 = .ok (.aload_n 0, 1) := by decide +kernel
theorem dX2_init_45 : decode cX2_init 45 = .ok (.aload_n 1, 1) := by decide +kernel
theorem dX2_init_46 : decode cX2_init 46 = .ok (.putfield 40, 3) := by decide +kernel
theorem dX2_init_49 : decode cX2_init 49 = .ok (.aload_n 0, 1) := by decide +kernel
theorem dX2_init_50 : decode cX2_init 50 = .ok (.aload_n 2, 1) := by decide +kernel
theorem dX2_init_51 : decode cX2_init 51 = .ok (.putfield 44, 3) := by decide +kernel
theorem dX2_init_54 : decode cX2_init 54 = .ok (.aload_n 0, 1) := by decide +kernel
theorem dX2_init_55 : decode cX2_init 55 = .ok (.aload_n 3, 1) := by decide +kernel
theorem dX2_init_56 : decode cX2_init 56 = .ok (.putfield 48, 3) := by decide +kernel
theorem dX2_init_59 : decode cX2_init 59 = .ok (.return_, 1) := by decide +kernel
theorem dX2_readLanguage_0 : decode cX2_readLanguage 0 = .ok (.aload_n 0, 1) := by decide +kernel
theorem dX2_readLanguage_1 : decode cX2_readLanguage 1 = .ok (.getfield 44, 3) := by decide +kernel
theorem dX2_readLanguage_4 : decode cX2_readLanguage 4 = .ok (.invokevirtual 52, 3) := by decide +kernel
theorem dX2_readLanguage_7 : decode cX2_readLanguage 7 = .ok (.aload_n 0, 1) := by decide +kernel
theorem dX2_readLanguage_8 : decode cX2_readLanguage 8 = .ok (.getfield 48, 3) := by decide +kernel
theorem dX2_readLanguage_11 : decode cX2_readLanguage 11 = .ok (.invokevirtual 57, 3) := by decide +kernel
theorem dX2_readLanguage_14 : decode cX2_readLanguage 14 = .ok (.aload_n 0, 1) := by decide +kernel
theorem dX2_readLanguage_15 : decode cX2_readLanguage 15 = .ok (.invokevirtual 60, 3) := by decide +kernel
theorem dX2_readLanguage_18 : decode cX2_readLanguage 18 = .ok (.iconst 0, 1) := by decide +kernel
theorem dX2_readLanguage_19 : decode cX2_readLanguage 19 = .ok (.istore_n 1, 1) := by decide +kernel
theorem dX2_readLanguage_20 : decode cX2_readLanguage 20 = .ok (.iload_n 1, 1) := by decide +kernel
theorem dX2_readLanguage_21 : decode cX2_readLanguage 21 = .ok (.sipush 400, 3) := by decide +kernel
theorem dX2_readLanguage_24 : decode cX2_readLanguage 24 = .ok (.if_icmp .ge 117, 3) := by decide +kernel
theorem dX2_readLanguage_27 : decode cX2_readLanguage 27 = .ok (.aload_n 0, 1) := by decide +kernel
theorem dX2_readLanguage_28 : decode cX2_readLanguage 28 = .ok (.getfield 34, 3) := by decide +kernel
theorem dX2_readLanguage_31 : decode cX2_readLanguage 31 = .ok (.iconst 1, 1) := by decide +kernel
theorem dX2_readLanguage_32 : decode cX2_readLanguage 32 = .ok (.if_icmp .eq 109, 3) := by decide +kernel
theorem dX2_readLanguage_35 : decode cX2_readLanguage 35 = .ok (.aload_n 0, 1) := by decide +kernel
theorem dX2_readLanguage_36 : decode cX2_readLanguage 36 = .ok (.getfield 25, 3) := by decide +kernel
theorem dX2_readLanguage_39 : decode cX2_readLanguage 39 = .ok (.getstatic 63, 3) := by decide +kernel
theorem dX2_readLanguage_42 : decode cX2_readLanguage 42 = .ok (.if_acmp .eq 99, 3) := by decide +kernel
theorem dX2_readLanguage_45 : decode cX2_readLanguage 45 = .ok (.aload_n 0, 1) := by decide +kernel
theorem dX2_readLanguage_46 : decode cX2_readLanguage 46 = .ok (.getfield 25, 3) := by decide +kernel
theorem dX2_readLanguage_49 : decode cX2_readLanguage 49 = .ok (.getstatic 66, 3) := by decide +kernel
theorem dX2_readLanguage_52 : decode cX2_readLanguage 52 = .ok (.if_acmp .ne 10, 3) := by decide +kernel
theorem dX2_readLanguage_55 : decode cX2_readLanguage 55 = .ok (.aload_n 0, 1) := by decide +kernel
theorem dX2_readLanguage_56 : decode cX2_readLanguage 56 = .ok (.invokevirtual 69, 3) := by decide +kernel
theorem dX2_readLanguage_59 : decode cX2_readLanguage 59 = .ok (.goto 69, 3) := by decide +kernel
theorem dX2_readLanguage_62 : decode cX2_readLanguage 62 = .ok (.aload_n 0, 1) := by decide +kernel
theorem dX2_readLanguage_63 : decode cX2_readLanguage 63 = .ok (.getfield 25, 3) := by decide +kernel
theorem dX2_readLanguage_66 : decode cX2_readLanguage 66 = .ok (.getstatic 72, 3) := by decide +kernel
theorem dX2_readLanguage_69 : decode cX2_readLanguage 69 = .ok (.if_acmp .ne 24, 3) := by decide +kernel
theorem dX2_readLanguage_72 : decode cX2_readLanguage 72 = .ok (.aload_n 0, 1) := by decide +kernel
theorem dX2_readLanguage_73 : decode cX2_readLanguage 73 = .ok (.invokevirtual 60, 3) := by decide +kernel
theorem dX2_readLanguage_76 : decode cX2_readLanguage 76 = .ok (.aload_n 0, 1) := by decide +kernel
theorem dX2_readLanguage_77 : decode cX2_readLanguage 77 = .ok (.getfield 44, 3) := by decide +kernel
theorem dX2_readLanguage_80 : decode cX2_readLanguage 80 = .ok (.aload_n 0, 1) := by decide +kernel
theorem dX2_readLanguage_81 : decode cX2_readLanguage 81 = .ok (.iconst 0, 1) := by decide +kernel
theorem dX2_readLanguage_82 : decode cX2_readLanguage 82 = .ok (.bipush 20, 2) := by decide +kernel
theorem dX2_readLanguage_84 : decode cX2_readLanguage 84 = .ok (.invokevirtual 75, 3) := by decide +kernel
theorem dX2_readLanguage_87 : decode cX2_readLanguage 87 = .ok (.putfield 79, 3) := by decide +kernel
theorem dX2_readLanguage_90 : decode cX2_readLanguage 90 = .ok (.goto 38, 3) := by decide +kernel
theorem dX2_readLanguage_93 : decode cX2_readLanguage 93 = .ok (.aload_n 0, 1) := by decide +kernel
theorem dX2_readLanguage_94 : decode cX2_readLanguage 94 = .ok (.getfield 25, 3) := by decide +kernel
theorem dX2_readLanguage_97 : decode cX2_readLanguage 97 = .ok (.getstatic 82, 3) := by decide +kernel
theorem dX2_readLanguage_100 : decode cX2_readLanguage 100 = .ok (.if_acmp .ne 24, 3) := by decide +kernel
theorem dX2_readLanguage_103 : decode cX2_readLanguage 103 = .ok (.aload_n 0, 1) := by decide +kernel
theorem dX2_readLanguage_104 : decode cX2_readLanguage 104 = .ok (.invokevirtual 60, 3) := by decide +kernel
theorem dX2_readLanguage_107 : decode cX2_readLanguage 107 = .ok (.aload_n 0, 1) := by decide +kernel
theorem dX2_readLanguage_108 : decode cX2_readLanguage 108 = .ok (.getfield 44, 3) := by decide +kernel
theorem dX2_readLanguage_111 : decode cX2_readLanguage 111 = .ok (.aload_n 0, 1) := by decide +kernel
theorem dX2_readLanguage_112 : decode cX2_readLanguage 112 = .ok (.iconst 0, 1) := by decide +kernel
theorem dX2_readLanguage_113 : decode cX2_readLanguage 113 = .ok (.bipush 99, 2) := by decide +kernel
theorem dX2_readLanguage_115 : decode cX2_readLanguage 115 = .ok (.invokevirtual 75, 3) := by decide +kernel
theorem dX2_readLanguage_118 : decode cX2_readLanguage 118 = .ok (.putfield 85, 3) := by decide +kernel
theorem dX2_readLanguage_121 : decode cX2_readLanguage 121 = .ok (.goto 7, 3) := by decide +kernel
theorem dX2_readLanguage_124 : decode cX2_readLanguage 124 = .ok (.aload_n 0, 1) := by decide +kernel
theorem dX2_readLanguage_125 : decode cX2_readLanguage 125 = .ok (.invokevirtual 88, 3) := by decide +kernel
theorem dX2_readLanguage_128 : decode cX2_readLanguage 128 = .ok (.aload_n 0, 1) := by decide +kernel
theorem dX2_readLanguage_129 : decode cX2_readLanguage 129 = .ok (.getstatic 91, 3) := by decide +kernel
theorem dX2_readLanguage_132 : decode cX2_readLanguage 132 = .ok (.invokevirtual 94, 3) := by decide +kernel
theorem dX2_readLanguage_135 : decode cX2_readLanguage 135 = .ok (.iinc 1 1, 3) := by decide +kernel
theorem dX2_readLanguage_138 : decode cX2_readLanguage 138 = .ok (.goto (-118), 3) := by decide +kernel
theorem dX2_readLanguage_141 : decode cX2_readLanguage 141 = .ok (.return_, 1) := by decide +kernel
theorem dX2_step_0 : decode cX2_step 0 = .ok (.aload_n 0, 1) := by decide +kernel
theorem dX2_step_1 : decode cX2_step 1 = .ok (.getfield 34, 3) := by decide +kernel
theorem dX2_step_4 : decode cX2_step 4 = .ok (.iconst 1, 1) := by decide +kernel
theorem dX2_step_5 : decode cX2_step 5 = .ok (.if_icmp .eq 58, 3) := by decide +kernel
theorem dX2_step_8 : decode cX2_step 8 = .ok (.aload_n 0, 1) := by decide +kernel
theorem dX2_step_9 : decode cX2_step 9 = .ok (.dup, 1) := by decide +kernel
theorem dX2_step_10 : decode cX2_step 10 = .ok (.getfield 15, 3) := by decide +kernel
theorem dX2_step_13 : decode cX2_step 13 = .ok (.iconst 1, 1) := by decide +kernel
theorem dX2_step_14 : decode cX2_step 14 = .ok (.iadd, 1) := by decide +kernel
theorem dX2_step_15 : decode cX2_step 15 = .ok (.putfield 15, 3) := by decide +kernel
theorem dX2_step_18 : decode cX2_step 18 = .ok (.aload_n 0, 1) := by decide +kernel
theorem dX2_step_19 : decode cX2_step 19 = .ok (.aload_n 0, 1) := by decide +kernel
theorem dX2_step_20 : decode cX2_step 20 = .ok (.getfield 40, 3) := by decide +kernel
theorem dX2_step_23 : decode cX2_step 23 = .ok (.aload_n 0, 1) := by decide +kernel
theorem dX2_step_24 : decode cX2_step 24 = .ok (.getfield 15, 3) := by decide +kernel
theorem dX2_step_27 : decode cX2_step 27 = .ok (.invokevirtual 98, 3) := by decide +kernel
theorem dX2_step_30 : decode cX2_step 30 = .ok (.putfield 25, 3) := by decide +kernel
theorem dX2_step_33 : decode cX2_step 33 = .ok (.aload_n 0, 1) := by decide +kernel
theorem dX2_step_34 : decode cX2_step 34 = .ok (.aload_n 0, 1) := by decide +kernel
theorem dX2_step_35 : decode cX2_step 35 = .ok (.getfield 40, 3) := by decide +kernel
theorem dX2_step_38 : decode cX2_step 38 = .ok (.aload_n 0, 1) := by decide +kernel
theorem dX2_step_39 : decode cX2_step 39 = .ok (.getfield 15, 3) := by decide +kernel
theorem dX2_step_42 : decode cX2_step 42 = .ok (.invokevirtual 103, 3) := by decide +kernel
theorem dX2_step_45 : decode cX2_step 45 = .ok (.putfield 28, 3) := by decide +kernel
theorem dX2_step_48 : decode cX2_step 48 = .ok (.aload_n 0, 1) := by decide +kernel
theorem dX2_step_49 : decode cX2_step 49 = .ok (.aload_n 0, 1) := by decide +kernel
theorem dX2_step_50 : decode cX2_step 50 = .ok (.getfield 40, 3) := by decide +kernel
theorem dX2_step_53 : decode cX2_step 53 = .ok (.aload_n 0, 1) := by decide +kernel
theorem dX2_step_54 : decode cX2_step 54 = .ok (.getfield 15, 3) := by decide +kernel
theorem dX2_step_57 : decode cX2_step 57 = .ok (.invokevirtual 106, 3) := by decide +kernel
theorem dX2_step_60 : decode cX2_step 60 = .ok (.putfield 31, 3) := by decide +kernel
theorem dX2_step_63 : decode cX2_step 63 = .ok (.return_, 1) := by decide +kernel
theorem dX2_expect_0 : decode cX2_expect 0 = .ok (.aload_n 0, 1) := by decide +kernel
theorem dX2_expect_1 : decode cX2_expect 1 = .ok (.getfield 25, 3) := by decide +kernel
theorem dX2_expect_4 : decode cX2_expect 4 = .ok (.aload_n 1, 1) := by decide +kernel
theorem dX2_expect_5 : decode cX2_expect 5 = .ok (.if_acmp .ne 10, 3) := by decide +kernel
theorem dX2_expect_8 : decode cX2_expect 8 = .ok (.aload_n 0, 1) := by decide +kernel
theorem dX2_expect_9 : decode cX2_expect 9 = .ok (.invokevirtual 60, 3) := by decide +kernel
theorem dX2_expect_12 : decode cX2_expect 12 = .ok (.goto 7, 3) := by decide +kernel
theorem dX2_expect_15 : decode cX2_expect 15 = .ok (.aload_n 0, 1) := by decide +kernel
theorem dX2_expect_16 : decode cX2_expect 16 = .ok (.invokevirtual 108, 3) := by decide +kernel
theorem dX2_expect_19 : decode cX2_expect 19 = .ok (.return_, 1) := by decide +kernel
theorem dX2_refuse_0 : decode cX2_refuse 0 = .ok (.aload_n 0, 1) := by decide +kernel
theorem dX2_refuse_1 : decode cX2_refuse 1 = .ok (.getfield 34, 3) := by decide +kernel
theorem dX2_refuse_4 : decode cX2_refuse 4 = .ok (.iconst 1, 1) := by decide +kernel
theorem dX2_refuse_5 : decode cX2_refuse 5 = .ok (.if_icmp .eq 23, 3) := by decide +kernel
theorem dX2_refuse_8 : decode cX2_refuse 8 = .ok (.aload_n 0, 1) := by decide +kernel
theorem dX2_refuse_9 : decode cX2_refuse 9 = .ok (.iconst 1, 1) := by decide +kernel
theorem dX2_refuse_10 : decode cX2_refuse 10 = .ok (.putfield 34, 3) := by decide +kernel
theorem dX2_refuse_13 : decode cX2_refuse 13 = .ok (.aload_n 0, 1) := by decide +kernel
theorem dX2_refuse_14 : decode cX2_refuse 14 = .ok (.aload_n 0, 1) := by decide +kernel
theorem dX2_refuse_15 : decode cX2_refuse 15 = .ok (.getfield 28, 3) := by decide +kernel
theorem dX2_refuse_18 : decode cX2_refuse 18 = .ok (.putfield 37, 3) := by decide +kernel
theorem dX2_refuse_21 : decode cX2_refuse 21 = .ok (.aload_n 0, 1) := by decide +kernel
theorem dX2_refuse_22 : decode cX2_refuse 22 = .ok (.getstatic 19, 3) := by decide +kernel
theorem dX2_refuse_25 : decode cX2_refuse 25 = .ok (.putfield 25, 3) := by decide +kernel
theorem dX2_refuse_28 : decode cX2_refuse 28 = .ok (.return_, 1) := by decide +kernel
theorem dX2_blame_0 : decode cX2_blame 0 = .ok (.aload_n 0, 1) := by decide +kernel
theorem dX2_blame_1 : decode cX2_blame 1 = .ok (.getfield 34, 3) := by decide +kernel
theorem dX2_blame_4 : decode cX2_blame 4 = .ok (.ifCond .ne 16, 3) := by decide +kernel
theorem dX2_blame_7 : decode cX2_blame 7 = .ok (.aload_n 0, 1) := by decide +kernel
theorem dX2_blame_8 : decode cX2_blame 8 = .ok (.iload_n 1, 1) := by decide +kernel
theorem dX2_blame_9 : decode cX2_blame 9 = .ok (.putfield 34, 3) := by decide +kernel
theorem dX2_blame_12 : decode cX2_blame 12 = .ok (.aload_n 0, 1) := by decide +kernel
theorem dX2_blame_13 : decode cX2_blame 13 = .ok (.aload_n 0, 1) := by decide +kernel
theorem dX2_blame_14 : decode cX2_blame 14 = .ok (.getfield 28, 3) := by decide +kernel
theorem dX2_blame_17 : decode cX2_blame 17 = .ok (.putfield 37, 3) := by decide +kernel
theorem dX2_blame_20 : decode cX2_blame 20 = .ok (.return_, 1) := by decide +kernel
theorem dX2_readWord_0 : decode cX2_readWord 0 = .ok (.aload_n 0, 1) := by decide +kernel
theorem dX2_readWord_1 : decode cX2_readWord 1 = .ok (.invokevirtual 60, 3) := by decide +kernel
theorem dX2_readWord_4 : decode cX2_readWord 4 = .ok (.aload_n 0, 1) := by decide +kernel
theorem dX2_readWord_5 : decode cX2_readWord 5 = .ok (.invokevirtual 111, 3) := by decide +kernel
theorem dX2_readWord_8 : decode cX2_readWord 8 = .ok (.aload_n 0, 1) := by decide +kernel
theorem dX2_readWord_9 : decode cX2_readWord 9 = .ok (.getstatic 114, 3) := by decide +kernel
theorem dX2_readWord_12 : decode cX2_readWord 12 = .ok (.invokevirtual 94, 3) := by decide +kernel
theorem dX2_readWord_15 : decode cX2_readWord 15 = .ok (.aload_n 0, 1) := by decide +kernel
theorem dX2_readWord_16 : decode cX2_readWord 16 = .ok (.invokevirtual 117, 3) := by decide +kernel
theorem dX2_readWord_19 : decode cX2_readWord 19 = .ok (.iconst 0, 1) := by decide +kernel
theorem dX2_readWord_20 : decode cX2_readWord 20 = .ok (.istore_n 1, 1) := by decide +kernel
theorem dX2_readWord_21 : decode cX2_readWord 21 = .ok (.iload_n 1, 1) := by decide +kernel
theorem dX2_readWord_22 : decode cX2_readWord 22 = .ok (.sipush 400, 3) := by decide +kernel
theorem dX2_readWord_25 : decode cX2_readWord 25 = .ok (.if_icmp .ge 27, 3) := by decide +kernel
theorem dX2_readWord_28 : decode cX2_readWord 28 = .ok (.aload_n 0, 1) := by decide +kernel
theorem dX2_readWord_29 : decode cX2_readWord 29 = .ok (.getfield 25, 3) := by decide +kernel
theorem dX2_readWord_32 : decode cX2_readWord 32 = .ok (.getstatic 120, 3) := by decide +kernel
theorem dX2_readWord_35 : decode cX2_readWord 35 = .ok (.if_acmp .ne 17, 3) := by decide +kernel
theorem dX2_readWord_38 : decode cX2_readWord 38 = .ok (.aload_n 0, 1) := by decide +kernel
theorem dX2_readWord_39 : decode cX2_readWord 39 = .ok (.invokevirtual 60, 3) := by decide +kernel
theorem dX2_readWord_42 : decode cX2_readWord 42 = .ok (.aload_n 0, 1) := by decide +kernel
theorem dX2_readWord_43 : decode cX2_readWord 43 = .ok (.invokevirtual 117, 3) := by decide +kernel
theorem dX2_readWord_46 : decode cX2_readWord 46 = .ok (.iinc 1 1, 3) := by decide +kernel
theorem dX2_readWord_49 : decode cX2_readWord 49 = .ok (.goto (-28), 3) := by decide +kernel
theorem dX2_readWord_52 : decode cX2_readWord 52 = .ok (.return_, 1) := by decide +kernel
theorem dX2_readNewName_0 : decode cX2_readNewName 0 = .ok (.aload_n 0, 1) := by decide +kernel
theorem dX2_readNewName_1 : decode cX2_readNewName 1 = .ok (.getfield 25, 3) := by decide +kernel
theorem dX2_readNewName_4 : decode cX2_readNewName 4 = .ok (.getstatic 123, 3) := by decide +kernel
theorem dX2_readNewName_7 : decode cX2_readNewName 7 = .ok (.if_acmp .eq 8, 3) := by decide +kernel
theorem dX2_readNewName_10 : decode cX2_readNewName 10 = .ok (.aload_n 0, 1) := by decide +kernel
theorem dX2_readNewName_11 : decode cX2_readNewName 11 = .ok (.invokevirtual 108, 3) := by decide +kernel
theorem dX2_readNewName_14 : decode cX2_readNewName 14 = .ok (.return_, 1) := by decide +kernel
theorem dX2_readNewName_15 : decode cX2_readNewName 15 = .ok (.aload_n 0, 1) := by decide +kernel
theorem dX2_readNewName_16 : decode cX2_readNewName 16 = .ok (.aload_n 0, 1) := by decide +kernel
theorem dX2_readNewName_17 : decode cX2_readNewName 17 = .ok (.getfield 31, 3) := by decide +kernel
theorem dX2_readNewName_20 : decode cX2_readNewName 20 = .ok (.invokevirtual 126, 3) := by decide +kernel
theorem dX2_readNewName_23 : decode cX2_readNewName 23 = .ok (.iconst (-1), 1) := by decide +kernel
theorem dX2_readNewName_24 : decode cX2_readNewName 24 = .ok (.if_icmp .eq 8, 3) := by decide +kernel
theorem dX2_readNewName_27 : decode cX2_readNewName 27 = .ok (.aload_n 0, 1) := by decide +kernel
theorem dX2_readNewName_28 : decode cX2_readNewName 28 = .ok (.iconst 2, 1) := by decide +kernel
theorem dX2_readNewName_29 : decode cX2_readNewName 29 = .ok (.invokevirtual 129, 3) := by decide +kernel
theorem dX2_readNewName_32 : decode cX2_readNewName 32 = .ok (.aload_n 0, 1) := by decide +kernel
theorem dX2_readNewName_33 : decode cX2_readNewName 33 = .ok (.getfield 48, 3) := by decide +kernel
theorem dX2_readNewName_36 : decode cX2_readNewName 36 = .ok (.getfield 133, 3) := by decide +kernel
theorem dX2_readNewName_39 : decode cX2_readNewName 39 = .ok (.bipush 8, 2) := by decide +kernel
theorem dX2_readNewName_41 : decode cX2_readNewName 41 = .ok (.if_icmp .lt 11, 3) := by decide +kernel
theorem dX2_readNewName_44 : decode cX2_readNewName 44 = .ok (.aload_n 0, 1) := by decide +kernel
theorem dX2_readNewName_45 : decode cX2_readNewName 45 = .ok (.iconst 4, 1) := by decide +kernel
theorem dX2_readNewName_46 : decode cX2_readNewName 46 = .ok (.invokevirtual 129, 3) := by decide +kernel
theorem dX2_readNewName_49 : decode cX2_readNewName 49 = .ok (.goto 41, 3) := by decide +kernel
theorem dX2_readNewName_52 : decode cX2_readNewName 52 = .ok (.aload_n 0, 1) := by decide +kernel
theorem dX2_readNewName_53 : decode cX2_readNewName 53 = .ok (.getfield 48, 3) := by decide +kernel
theorem dX2_readNewName_56 : decode cX2_readNewName 56 = .ok (.getfield 133, 3) := by decide +kernel
theorem dX2_readNewName_59 : decode cX2_readNewName 59 = .ok (.aload_n 0, 1) := by decide +kernel
theorem dX2_readNewName_60 : decode cX2_readNewName 60 = .ok (.getfield 9, 3) := by decide +kernel
theorem dX2_readNewName_63 : decode cX2_readNewName 63 = .ok (.arraylength, 1) := by decide +kernel
theorem dX2_readNewName_64 : decode cX2_readNewName 64 = .ok (.if_icmp .ge 26, 3) := by decide +kernel
theorem dX2_readNewName_67 : decode cX2_readNewName 67 = .ok (.aload_n 0, 1) := by decide +kernel
theorem dX2_readNewName_68 : decode cX2_readNewName 68 = .ok (.getfield 9, 3) := by decide +kernel
theorem dX2_readNewName_71 : decode cX2_readNewName 71 = .ok (.aload_n 0, 1) := by decide +kernel
theorem dX2_readNewName_72 : decode cX2_readNewName 72 = .ok (.getfield 48, 3) := by decide +kernel
theorem dX2_readNewName_75 : decode cX2_readNewName 75 = .ok (.getfield 133, 3) := by decide +kernel
theorem dX2_readNewName_78 : decode cX2_readNewName 78 = .ok (.aload_n 0, 1) := by decide +kernel
theorem dX2_readNewName_79 : decode cX2_readNewName 79 = .ok (.getfield 31, 3) := by decide +kernel
theorem dX2_readNewName_82 : decode cX2_readNewName 82 = .ok (.iastore, 1) := by decide +kernel
theorem dX2_readNewName_83 : decode cX2_readNewName 83 = .ok (.aload_n 0, 1) := by decide +kernel
theorem dX2_readNewName_84 : decode cX2_readNewName 84 = .ok (.getfield 48, 3) := by decide +kernel
theorem dX2_readNewName_87 : decode cX2_readNewName 87 = .ok (.invokevirtual 136, 3) := by decide +kernel
theorem dX2_readNewName_90 : decode cX2_readNewName 90 = .ok (.aload_n 0, 1) := by decide +kernel
theorem dX2_readNewName_91 : decode cX2_readNewName 91 = .ok (.invokevirtual 60, 3) := by decide +kernel
theorem dX2_readNewName_94 : decode cX2_readNewName 94 = .ok (.return_, 1) := by decide +kernel
theorem dX2_readKnownName_0 : decode cX2_readKnownName 0 = .ok (.aload_n 0, 1) := by decide +kernel
theorem dX2_readKnownName_1 : decode cX2_readKnownName 1 = .ok (.getfield 25, 3) := by decide +kernel
theorem dX2_readKnownName_4 : decode cX2_readKnownName 4 = .ok (.getstatic 123, 3) := by decide +kernel
theorem dX2_readKnownName_7 : decode cX2_readKnownName 7 = .ok (.if_acmp .eq 9, 3) := by decide +kernel
theorem dX2_readKnownName_10 : decode cX2_readKnownName 10 = .ok (.aload_n 0, 1) := by decide +kernel
theorem dX2_readKnownName_11 : decode cX2_readKnownName 11 = .ok (.invokevirtual 108, 3) := by decide +kernel
theorem dX2_readKnownName_14 : decode cX2_readKnownName 14 = .ok (.iconst (-1), 1) := by decide +kernel
theorem dX2_readKnownName_15 : decode cX2_readKnownName 15 = .ok (.ireturn, 1) := by decide +kernel
theorem dX2_readKnownName_16 : decode cX2_readKnownName 16 = .ok (.aload_n 0, 1) := by decide +kernel
theorem dX2_readKnownName_17 : decode cX2_readKnownName 17 = .ok (.aload_n 0, 1) := by decide +kernel
theorem dX2_readKnownName_18 : decode cX2_readKnownName 18 = .ok (.getfield 31, 3) := by decide +kernel
theorem dX2_readKnownName_21 : decode cX2_readKnownName 21 = .ok (.invokevirtual 126, 3) := by decide +kernel
theorem dX2_readKnownName_24 : decode cX2_readKnownName 24 = .ok (.istore_n 1, 1) := by decide +kernel
theorem dX2_readKnownName_25 : decode cX2_readKnownName 25 = .ok (.iload_n 1, 1) := by decide +kernel
theorem dX2_readKnownName_26 : decode cX2_readKnownName 26 = .ok (.iconst (-1), 1) := by decide +kernel
theorem dX2_readKnownName_27 : decode cX2_readKnownName 27 = .ok (.if_icmp .ne 8, 3) := by decide +kernel
theorem dX2_readKnownName_30 : decode cX2_readKnownName 30 = .ok (.aload_n 0, 1) := by decide +kernel
theorem dX2_readKnownName_31 : decode cX2_readKnownName 31 = .ok (.iconst 3, 1) := by decide +kernel
theorem dX2_readKnownName_32 : decode cX2_readKnownName 32 = .ok (.invokevirtual 129, 3) := by decide +kernel
theorem dX2_readKnownName_35 : decode cX2_readKnownName 35 = .ok (.aload_n 0, 1) := by decide +kernel
theorem dX2_readKnownName_36 : decode cX2_readKnownName 36 = .ok (.invokevirtual 60, 3) := by decide +kernel
theorem dX2_readKnownName_39 : decode cX2_readKnownName 39 = .ok (.iload_n 1, 1) := by decide +kernel
theorem dX2_readKnownName_40 : decode cX2_readKnownName 40 = .ok (.ireturn, 1) := by decide +kernel
theorem dX2_wordCalled_0 : decode cX2_wordCalled 0 = .ok (.iconst 0, 1) := by decide +kernel
theorem dX2_wordCalled_1 : decode cX2_wordCalled 1 = .ok (.istore_n 2, 1) := by decide +kernel
theorem dX2_wordCalled_2 : decode cX2_wordCalled 2 = .ok (.iload_n 2, 1) := by decide +kernel
theorem dX2_wordCalled_3 : decode cX2_wordCalled 3 = .ok (.aload_n 0, 1) := by decide +kernel
theorem dX2_wordCalled_4 : decode cX2_wordCalled 4 = .ok (.getfield 48, 3) := by decide +kernel
theorem dX2_wordCalled_7 : decode cX2_wordCalled 7 = .ok (.getfield 133, 3) := by decide +kernel
theorem dX2_wordCalled_10 : decode cX2_wordCalled 10 = .ok (.if_icmp .ge 30, 3) := by decide +kernel
theorem dX2_wordCalled_13 : decode cX2_wordCalled 13 = .ok (.iload_n 2, 1) := by decide +kernel
theorem dX2_wordCalled_14 : decode cX2_wordCalled 14 = .ok (.aload_n 0, 1) := by decide +kernel
theorem dX2_wordCalled_15 : decode cX2_wordCalled 15 = .ok (.getfield 9, 3) := by decide +kernel
theorem dX2_wordCalled_18 : decode cX2_wordCalled 18 = .ok (.arraylength, 1) := by decide +kernel
theorem dX2_wordCalled_19 : decode cX2_wordCalled 19 = .ok (.if_icmp .ge 21, 3) := by decide +kernel
theorem dX2_wordCalled_22 : decode cX2_wordCalled 22 = .ok (.aload_n 0, 1) := by decide +kernel
theorem dX2_wordCalled_23 : decode cX2_wordCalled 23 = .ok (.getfield 9, 3) := by decide +kernel
theorem dX2_wordCalled_26 : decode cX2_wordCalled 26 = .ok (.iload_n 2, 1) := by decide +kernel
theorem dX2_wordCalled_27 : decode cX2_wordCalled 27 = .ok (.iaload, 1) := by decide +kernel
theorem dX2_wordCalled_28 : decode cX2_wordCalled 28 = .ok (.iload_n 1, 1) := by decide +kernel
theorem dX2_wordCalled_29 : decode cX2_wordCalled 29 = .ok (.if_icmp .ne 5, 3) := by decide +kernel
theorem dX2_wordCalled_32 : decode cX2_wordCalled 32 = .ok (.iload_n 2, 1) := by decide +kernel
theorem dX2_wordCalled_33 : decode cX2_wordCalled 33 = .ok (.ireturn, 1) := by decide +kernel
theorem dX2_wordCalled_34 : decode cX2_wordCalled 34 = .ok (.iinc 2 1, 3) := by decide +kernel
theorem dX2_wordCalled_37 : decode cX2_wordCalled 37 = .ok (.goto (-35), 3) := by decide +kernel
theorem dX2_wordCalled_40 : decode cX2_wordCalled 40 = .ok (.iconst (-1), 1) := by decide +kernel
theorem dX2_wordCalled_41 : decode cX2_wordCalled 41 = .ok (.ireturn, 1) := by decide +kernel
theorem dX2_readPart_0 : decode cX2_readPart 0 = .ok (.aload_n 0, 1) := by decide +kernel
theorem dX2_readPart_1 : decode cX2_readPart 1 = .ok (.getfield 48, 3) := by decide +kernel
theorem dX2_readPart_4 : decode cX2_readPart 4 = .ok (.aload_n 0, 1) := by decide +kernel
theorem dX2_readPart_5 : decode cX2_readPart 5 = .ok (.getfield 48, 3) := by decide +kernel
theorem dX2_readPart_8 : decode cX2_readPart 8 = .ok (.getfield 133, 3) := by decide +kernel
theorem dX2_readPart_11 : decode cX2_readPart 11 = .ok (.iconst 1, 1) := by decide +kernel
theorem dX2_readPart_12 : decode cX2_readPart 12 = .ok (.isub, 1) := by decide +kernel
theorem dX2_readPart_13 : decode cX2_readPart 13 = .ok (.invokevirtual 139, 3) := by decide +kernel
theorem dX2_readPart_16 : decode cX2_readPart 16 = .ok (.getfield 143, 3) := by decide +kernel
theorem dX2_readPart_19 : decode cX2_readPart 19 = .ok (.astore_n 1, 1) := by decide +kernel
theorem dX2_readPart_20 : decode cX2_readPart 20 = .ok (.iconst 0, 1) := by decide +kernel
theorem dX2_readPart_21 : decode cX2_readPart 21 = .ok (.istore_n 2, 1) := by decide +kernel
theorem dX2_readPart_22 : decode cX2_readPart 22 = .ok (.iconst 0, 1) := by decide +kernel
theorem dX2_readPart_23 : decode cX2_readPart 23 = .ok (.istore_n 3, 1) := by decide +kernel
theorem dX2_readPart_24 : decode cX2_readPart 24 = .ok (.aload_n 0, 1) := by decide +kernel
theorem dX2_readPart_25 : decode cX2_readPart 25 = .ok (.getfield 25, 3) := by decide +kernel
theorem dX2_readPart_28 : decode cX2_readPart 28 = .ok (.getstatic 149, 3) := by decide +kernel
theorem dX2_readPart_31 : decode cX2_readPart 31 = .ok (.if_acmp .ne 20, 3) := by decide +kernel
theorem dX2_readPart_34 : decode cX2_readPart 34 = .ok (.aload_n 0, 1) := by decide +kernel
theorem dX2_readPart_35 : decode cX2_readPart 35 = .ok (.invokevirtual 60, 3) := by decide +kernel
theorem dX2_readPart_38 : decode cX2_readPart 38 = .ok (.aload_n 0, 1) := by decide +kernel
theorem dX2_readPart_39 : decode cX2_readPart 39 = .ok (.iconst 1, 1) := by decide +kernel
theorem dX2_readPart_40 : decode cX2_readPart 40 = .ok (.bipush 40, 2) := by decide +kernel
theorem dX2_readPart_42 : decode cX2_readPart 42 = .ok (.invokevirtual 75, 3) := by decide +kernel
theorem dX2_readPart_45 : decode cX2_readPart 45 = .ok (.istore_n 2, 1) := by decide +kernel
theorem dX2_readPart_46 : decode cX2_readPart 46 = .ok (.iload_n 2, 1) := by decide +kernel
theorem dX2_readPart_47 : decode cX2_readPart 47 = .ok (.istore_n 3, 1) := by decide +kernel
theorem dX2_readPart_48 : decode cX2_readPart 48 = .ok (.goto 50, 3) := by decide +kernel
theorem dX2_readPart_51 : decode cX2_readPart 51 = .ok (.aload_n 0, 1) := by decide +kernel
theorem dX2_readPart_52 : decode cX2_readPart 52 = .ok (.getfield 25, 3) := by decide +kernel
theorem dX2_readPart_55 : decode cX2_readPart 55 = .ok (.getstatic 152, 3) := by decide +kernel
theorem dX2_readPart_58 : decode cX2_readPart 58 = .ok (.if_acmp .ne 33, 3) := by decide +kernel
theorem dX2_readPart_61 : decode cX2_readPart 61 = .ok (.aload_n 0, 1) := by decide +kernel
theorem dX2_readPart_62 : decode cX2_readPart 62 = .ok (.invokevirtual 60, 3) := by decide +kernel
theorem dX2_readPart_65 : decode cX2_readPart 65 = .ok (.aload_n 0, 1) := by decide +kernel
theorem dX2_readPart_66 : decode cX2_readPart 66 = .ok (.iconst 1, 1) := by decide +kernel
theorem dX2_readPart_67 : decode cX2_readPart 67 = .ok (.bipush 40, 2) := by decide +kernel
theorem dX2_readPart_69 : decode cX2_readPart 69 = .ok (.invokevirtual 75, 3) := by decide +kernel
theorem dX2_readPart_72 : decode cX2_readPart 72 = .ok (.istore_n 2, 1) := by decide +kernel
theorem dX2_readPart_73 : decode cX2_readPart 73 = .ok (.aload_n 0, 1) := by decide +kernel
theorem dX2_readPart_74 : decode cX2_readPart 74 = .ok (.getstatic 155, 3) := by decide +kernel
theorem dX2_readPart_77 : decode cX2_readPart 77 = .ok (.invokevirtual 94, 3) := by decide +kernel
theorem dX2_readPart_80 : decode cX2_readPart 80 = .ok (.aload_n 0, 1) := by decide +kernel
theorem dX2_readPart_81 : decode cX2_readPart 81 = .ok (.iconst 1, 1) := by decide +kernel
theorem dX2_readPart_82 : decode cX2_readPart 82 = .ok (.bipush 40, 2) := by decide +kernel
theorem dX2_readPart_84 : decode cX2_readPart 84 = .ok (.invokevirtual 75, 3) := by decide +kernel
theorem dX2_readPart_87 : decode cX2_readPart 87 = .ok (.istore_n 3, 1) := by decide +kernel
theorem dX2_readPart_88 : decode cX2_readPart 88 = .ok (.goto 10, 3) := by decide +kernel
theorem dX2_readPart_91 : decode cX2_readPart 91 = .ok (.aload_n 0, 1) := by decide +kernel
theorem dX2_readPart_92 : decode cX2_readPart 92 = .ok (.getstatic 158, 3) := by decide +kernel
theorem dX2_readPart_95 : decode cX2_readPart 95 = .ok (.invokevirtual 94, 3) := by decide +kernel
theorem dX2_readPart_98 : decode cX2_readPart 98 = .ok (.aload_n 0, 1) := by decide +kernel
theorem dX2_readPart_99 : decode cX2_readPart 99 = .ok (.getstatic 161, 3) := by decide +kernel
theorem dX2_readPart_102 : decode cX2_readPart 102 = .ok (.invokevirtual 94, 3) := by decide +kernel
theorem dX2_readPart_105 : decode cX2_readPart 105 = .ok (.aload_n 1, 1) := by decide +kernel
theorem dX2_readPart_106 : decode cX2_readPart 106 = .ok (.iload_n 2, 1) := by decide +kernel
theorem dX2_readPart_107 : decode cX2_readPart 107 = .ok (.iload_n 3, 1) := by decide +kernel
theorem dX2_readPart_108 : decode cX2_readPart 108 = .ok (.aload_n 0, 1) := by decide +kernel
theorem dX2_readPart_109 : decode cX2_readPart 109 = .ok (.iconst 1, 1) := by decide +kernel
theorem dX2_readPart_110 : decode cX2_readPart 110 = .ok (.bipush 9, 2) := by decide +kernel
theorem dX2_readPart_112 : decode cX2_readPart 112 = .ok (.bipush 24, 2) := by decide +kernel
theorem dX2_readPart_114 : decode cX2_readPart 114 = .ok (.aload_n 1, 1) := by decide +kernel
theorem dX2_readPart_115 : decode cX2_readPart 115 = .ok (.getfield 164, 3) := by decide +kernel
theorem dX2_readPart_118 : decode cX2_readPart 118 = .ok (.isub, 1) := by decide +kernel
theorem dX2_readPart_119 : decode cX2_readPart 119 = .ok (.invokestatic 169, 3) := by decide +kernel
theorem dX2_readPart_122 : decode cX2_readPart 122 = .ok (.invokevirtual 75, 3) := by decide +kernel
theorem dX2_readPart_125 : decode cX2_readPart 125 = .ok (.invokevirtual 174, 3) := by decide +kernel
theorem dX2_readPart_128 : decode cX2_readPart 128 = .ok (.return_, 1) := by decide +kernel
theorem dX2_readNumber_0 : decode cX2_readNumber 0 = .ok (.aload_n 0, 1) := by decide +kernel
theorem dX2_readNumber_1 : decode cX2_readNumber 1 = .ok (.getfield 25, 3) := by decide +kernel
theorem dX2_readNumber_4 : decode cX2_readNumber 4 = .ok (.getstatic 178, 3) := by decide +kernel
theorem dX2_readNumber_7 : decode cX2_readNumber 7 = .ok (.if_acmp .eq 9, 3) := by decide +kernel
theorem dX2_readNumber_10 : decode cX2_readNumber 10 = .ok (.aload_n 0, 1) := by decide +kernel
theorem dX2_readNumber_11 : decode cX2_readNumber 11 = .ok (.invokevirtual 108, 3) := by decide +kernel
theorem dX2_readNumber_14 : decode cX2_readNumber 14 = .ok (.iconst 0, 1) := by decide +kernel
theorem dX2_readNumber_15 : decode cX2_readNumber 15 = .ok (.ireturn, 1) := by decide +kernel
theorem dX2_readNumber_16 : decode cX2_readNumber 16 = .ok (.aload_n 0, 1) := by decide +kernel
theorem dX2_readNumber_17 : decode cX2_readNumber 17 = .ok (.getfield 31, 3) := by decide +kernel
theorem dX2_readNumber_20 : decode cX2_readNumber 20 = .ok (.istore_n 3, 1) := by decide +kernel
theorem dX2_readNumber_21 : decode cX2_readNumber 21 = .ok (.iload_n 3, 1) := by decide +kernel
theorem dX2_readNumber_22 : decode cX2_readNumber 22 = .ok (.iload_n 1, 1) := by decide +kernel
theorem dX2_readNumber_23 : decode cX2_readNumber 23 = .ok (.if_icmp .lt 8, 3) := by decide +kernel
theorem dX2_readNumber_26 : decode cX2_readNumber 26 = .ok (.iload_n 3, 1) := by decide +kernel
theorem dX2_readNumber_27 : decode cX2_readNumber 27 = .ok (.iload_n 2, 1) := by decide +kernel
theorem dX2_readNumber_28 : decode cX2_readNumber 28 = .ok (.if_icmp .le 8, 3) := by decide +kernel
theorem dX2_readNumber_31 : decode cX2_readNumber 31 = .ok (.aload_n 0, 1) := by decide +kernel
theorem dX2_readNumber_32 : decode cX2_readNumber 32 = .ok (.iconst 5, 1) := by decide +kernel
theorem dX2_readNumber_33 : decode cX2_readNumber 33 = .ok (.invokevirtual 129, 3) := by decide +kernel
theorem dX2_readNumber_36 : decode cX2_readNumber 36 = .ok (.aload_n 0, 1) := by decide +kernel
theorem dX2_readNumber_37 : decode cX2_readNumber 37 = .ok (.invokevirtual 60, 3) := by decide +kernel
theorem dX2_readNumber_40 : decode cX2_readNumber 40 = .ok (.iload_n 3, 1) := by decide +kernel
theorem dX2_readNumber_41 : decode cX2_readNumber 41 = .ok (.ireturn, 1) := by decide +kernel
theorem dX2_readRule_0 : decode cX2_readRule 0 = .ok (.aload_n 0, 1) := by decide +kernel
theorem dX2_readRule_1 : decode cX2_readRule 1 = .ok (.getfield 25, 3) := by decide +kernel
theorem dX2_readRule_4 : decode cX2_readRule 4 = .ok (.getstatic 181, 3) := by decide +kernel
theorem dX2_readRule_7 : decode cX2_readRule 7 = .ok (.if_acmp .eq 28, 3) := by decide +kernel
theorem dX2_readRule_10 : decode cX2_readRule 10 = .ok (.aload_n 0, 1) := by decide +kernel
theorem dX2_readRule_11 : decode cX2_readRule 11 = .ok (.getfield 25, 3) := by decide +kernel
theorem dX2_readRule_14 : decode cX2_readRule 14 = .ok (.getstatic 184, 3) := by decide +kernel
theorem dX2_readRule_17 : decode cX2_readRule 17 = .ok (.if_acmp .eq 18, 3) := by decide +kernel
theorem dX2_readRule_20 : decode cX2_readRule 20 = .ok (.aload_n 0, 1) := by decide +kernel
theorem dX2_readRule_21 : decode cX2_readRule 21 = .ok (.getfield 25, 3) := by decide +kernel
theorem dX2_readRule_24 : decode cX2_readRule 24 = .ok (.getstatic 187, 3) := by decide +kernel
theorem dX2_readRule_27 : decode cX2_readRule 27 = .ok (.if_acmp .eq 8, 3) := by decide +kernel
theorem dX2_readRule_30 : decode cX2_readRule 30 = .ok (.aload_n 0, 1) := by decide +kernel
theorem dX2_readRule_31 : decode cX2_readRule 31 = .ok (.invokevirtual 108, 3) := by decide +kernel
theorem dX2_readRule_34 : decode cX2_readRule 34 = .ok (.return_, 1) := by decide +kernel
theorem dX2_readRule_35 : decode cX2_readRule 35 = .ok (.aload_n 0, 1) := by decide +kernel
theorem dX2_readRule_36 : decode cX2_readRule 36 = .ok (.getfield 44, 3) := by decide +kernel
theorem dX2_readRule_39 : decode cX2_readRule 39 = .ok (.getfield 190, 3) := by decide +kernel
theorem dX2_readRule_42 : decode cX2_readRule 42 = .ok (.bipush 16, 2) := by decide +kernel
theorem dX2_readRule_44 : decode cX2_readRule 44 = .ok (.if_icmp .lt 8, 3) := by decide +kernel
theorem dX2_readRule_47 : decode cX2_readRule 47 = .ok (.aload_n 0, 1) := by decide +kernel
theorem dX2_readRule_48 : decode cX2_readRule 48 = .ok (.iconst 4, 1) := by decide +kernel
theorem dX2_readRule_49 : decode cX2_readRule 49 = .ok (.invokevirtual 129, 3) := by decide +kernel
theorem dX2_readRule_52 : decode cX2_readRule 52 = .ok (.aload_n 0, 1) := by decide +kernel
theorem dX2_readRule_53 : decode cX2_readRule 53 = .ok (.getfield 25, 3) := by decide +kernel
theorem dX2_readRule_56 : decode cX2_readRule 56 = .ok (.astore_n 1, 1) := by decide +kernel
theorem dX2_readRule_57 : decode cX2_readRule 57 = .ok (.aload_n 0, 1) := by decide +kernel
theorem dX2_readRule_58 : decode cX2_readRule 58 = .ok (.invokevirtual 60, 3) := by decide +kernel
theorem dX2_readRule_61 : decode cX2_readRule 61 = .ok (.aload_n 0, 1) := by decide +kernel
theorem dX2_readRule_62 : decode cX2_readRule 62 = .ok (.invokevirtual 191, 3) := by decide +kernel
theorem dX2_readRule_65 : decode cX2_readRule 65 = .ok (.istore_n 2, 1) := by decide +kernel
theorem dX2_readRule_66 : decode cX2_readRule 66 = .ok (.aload_n 0, 1) := by decide +kernel
theorem dX2_readRule_67 : decode cX2_readRule 67 = .ok (.getfield 44, 3) := by decide +kernel
theorem dX2_readRule_70 : decode cX2_readRule 70 = .ok (.getfield 195, 3) := by decide +kernel
theorem dX2_readRule_73 : decode cX2_readRule 73 = .ok (.istore_n 3, 1) := by decide +kernel
theorem dX2_readRule_74 : decode cX2_readRule 74 = .ok (.aload_n 1, 1) := by decide +kernel
theorem dX2_readRule_75 : decode cX2_readRule 75 = .ok (.getstatic 187, 3) := by decide +kernel
theorem dX2_readRule_78 : decode cX2_readRule 78 = .ok (.if_acmp .ne 15, 3) := by decide +kernel
theorem dX2_readRule_81 : decode cX2_readRule 81 = .ok (.aload_n 0, 1) := by decide +kernel
theorem dX2_readRule_82 : decode cX2_readRule 82 = .ok (.getstatic 198, 3) := by decide +kernel
theorem dX2_readRule_85 : decode cX2_readRule 85 = .ok (.invokevirtual 94, 3) := by decide +kernel
theorem dX2_readRule_88 : decode cX2_readRule 88 = .ok (.aload_n 0, 1) := by decide +kernel
theorem dX2_readRule_89 : decode cX2_readRule 89 = .ok (.iconst 0, 1) := by decide +kernel
theorem dX2_readRule_90 : decode cX2_readRule 90 = .ok (.invokevirtual 201, 3) := by decide +kernel
theorem dX2_readRule_93 : decode cX2_readRule 93 = .ok (.aload_n 0, 1) := by decide +kernel
theorem dX2_readRule_94 : decode cX2_readRule 94 = .ok (.getfield 44, 3) := by decide +kernel
theorem dX2_readRule_97 : decode cX2_readRule 97 = .ok (.getfield 195, 3) := by decide +kernel
theorem dX2_readRule_100 : decode cX2_readRule 100 = .ok (.istore 4, 2) := by decide +kernel
theorem dX2_readRule_102 : decode cX2_readRule 102 = .ok (.aload_n 0, 1) := by decide +kernel
theorem dX2_readRule_103 : decode cX2_readRule 103 = .ok (.getfield 25, 3) := by decide +kernel
theorem dX2_readRule_106 : decode cX2_readRule 106 = .ok (.getstatic 204, 3) := by decide +kernel
theorem dX2_readRule_109 : decode cX2_readRule 109 = .ok (.if_acmp .ne 12, 3) := by decide +kernel
theorem dX2_readRule_112 : decode cX2_readRule 112 = .ok (.aload_n 0, 1) := by decide +kernel
theorem dX2_readRule_113 : decode cX2_readRule 113 = .ok (.invokevirtual 60, 3) := by decide +kernel
theorem dX2_readRule_116 : decode cX2_readRule 116 = .ok (.aload_n 0, 1) := by decide +kernel
theorem dX2_readRule_117 : decode cX2_readRule 117 = .ok (.iconst 0, 1) := by decide +kernel
theorem dX2_readRule_118 : decode cX2_readRule 118 = .ok (.invokevirtual 207, 3) := by decide +kernel
theorem dX2_readRule_121 : decode cX2_readRule 121 = .ok (.aload_n 0, 1) := by decide +kernel
theorem dX2_readRule_122 : decode cX2_readRule 122 = .ok (.getfield 44, 3) := by decide +kernel
theorem dX2_readRule_125 : decode cX2_readRule 125 = .ok (.aload_n 1, 1) := by decide +kernel
theorem dX2_readRule_126 : decode cX2_readRule 126 = .ok (.iload_n 2, 1) := by decide +kernel
theorem dX2_readRule_127 : decode cX2_readRule 127 = .ok (.iload_n 3, 1) := by decide +kernel
theorem dX2_readRule_128 : decode cX2_readRule 128 = .ok (.iload 4, 2) := by decide +kernel
theorem dX2_readRule_130 : decode cX2_readRule 130 = .ok (.invokevirtual 210, 3) := by decide +kernel
theorem dX2_readRule_133 : decode cX2_readRule 133 = .ok (.return_, 1) := by decide +kernel
theorem dX2_requireDepth_0 : decode cX2_requireDepth 0 = .ok (.iload_n 1, 1) := by decide +kernel
theorem dX2_requireDepth_1 : decode cX2_requireDepth 1 = .ok (.bipush 8, 2) := by decide +kernel
theorem dX2_requireDepth_3 : decode cX2_requireDepth 3 = .ok (.if_icmp .lt 7, 3) := by decide +kernel
theorem dX2_requireDepth_6 : decode cX2_requireDepth 6 = .ok (.aload_n 0, 1) := by decide +kernel
theorem dX2_requireDepth_7 : decode cX2_requireDepth 7 = .ok (.invokevirtual 108, 3) := by decide +kernel
theorem dX2_requireDepth_10 : decode cX2_requireDepth 10 = .ok (.return_, 1) := by decide +kernel
theorem dX2_readTest_0 : decode cX2_readTest 0 = .ok (.aload_n 0, 1) := by decide +kernel
theorem dX2_readTest_1 : decode cX2_readTest 1 = .ok (.iload_n 1, 1) := by decide +kernel
theorem dX2_readTest_2 : decode cX2_readTest 2 = .ok (.invokevirtual 214, 3) := by decide +kernel
theorem dX2_readTest_5 : decode cX2_readTest 5 = .ok (.iconst 0, 1) := by decide +kernel
theorem dX2_readTest_6 : decode cX2_readTest 6 = .ok (.istore_n 2, 1) := by decide +kernel
theorem dX2_readTest_7 : decode cX2_readTest 7 = .ok (.iload_n 2, 1) := by decide +kernel
theorem dX2_readTest_8 : decode cX2_readTest 8 = .ok (.sipush 400, 3) := by decide +kernel
theorem dX2_readTest_11 : decode cX2_readTest 11 = .ok (.if_icmp .ge 39, 3) := by decide +kernel
theorem dX2_readTest_14 : decode cX2_readTest 14 = .ok (.aload_n 0, 1) := by decide +kernel
theorem dX2_readTest_15 : decode cX2_readTest 15 = .ok (.getfield 25, 3) := by decide +kernel
theorem dX2_readTest_18 : decode cX2_readTest 18 = .ok (.getstatic 217, 3) := by decide +kernel
theorem dX2_readTest_21 : decode cX2_readTest 21 = .ok (.if_acmp .ne 29, 3) := by decide +kernel
theorem dX2_readTest_24 : decode cX2_readTest 24 = .ok (.aload_n 0, 1) := by decide +kernel
theorem dX2_readTest_25 : decode cX2_readTest 25 = .ok (.invokevirtual 60, 3) := by decide +kernel
theorem dX2_readTest_28 : decode cX2_readTest 28 = .ok (.aload_n 0, 1) := by decide +kernel
theorem dX2_readTest_29 : decode cX2_readTest 29 = .ok (.iload_n 1, 1) := by decide +kernel
theorem dX2_readTest_30 : decode cX2_readTest 30 = .ok (.invokevirtual 214, 3) := by decide +kernel
theorem dX2_readTest_33 : decode cX2_readTest 33 = .ok (.aload_n 0, 1) := by decide +kernel
theorem dX2_readTest_34 : decode cX2_readTest 34 = .ok (.getfield 44, 3) := by decide +kernel
theorem dX2_readTest_37 : decode cX2_readTest 37 = .ok (.getstatic 217, 3) := by decide +kernel
theorem dX2_readTest_40 : decode cX2_readTest 40 = .ok (.iconst 0, 1) := by decide +kernel
theorem dX2_readTest_41 : decode cX2_readTest 41 = .ok (.invokevirtual 220, 3) := by decide +kernel
theorem dX2_readTest_44 : decode cX2_readTest 44 = .ok (.iinc 2 1, 3) := by decide +kernel
theorem dX2_readTest_47 : decode cX2_readTest 47 = .ok (.goto (-40), 3) := by decide +kernel
theorem dX2_readTest_50 : decode cX2_readTest 50 = .ok (.return_, 1) := by decide +kernel
theorem dX2_readBoth_0 : decode cX2_readBoth 0 = .ok (.aload_n 0, 1) := by decide +kernel
theorem dX2_readBoth_1 : decode cX2_readBoth 1 = .ok (.iload_n 1, 1) := by decide +kernel
theorem dX2_readBoth_2 : decode cX2_readBoth 2 = .ok (.invokevirtual 224, 3) := by decide +kernel
theorem dX2_readBoth_5 : decode cX2_readBoth 5 = .ok (.iconst 0, 1) := by decide +kernel
theorem dX2_readBoth_6 : decode cX2_readBoth 6 = .ok (.istore_n 2, 1) := by decide +kernel
theorem dX2_readBoth_7 : decode cX2_readBoth 7 = .ok (.iload_n 2, 1) := by decide +kernel
theorem dX2_readBoth_8 : decode cX2_readBoth 8 = .ok (.sipush 400, 3) := by decide +kernel
theorem dX2_readBoth_11 : decode cX2_readBoth 11 = .ok (.if_icmp .ge 39, 3) := by decide +kernel
theorem dX2_readBoth_14 : decode cX2_readBoth 14 = .ok (.aload_n 0, 1) := by decide +kernel
theorem dX2_readBoth_15 : decode cX2_readBoth 15 = .ok (.getfield 25, 3) := by decide +kernel
theorem dX2_readBoth_18 : decode cX2_readBoth 18 = .ok (.getstatic 227, 3) := by decide +kernel
theorem dX2_readBoth_21 : decode cX2_readBoth 21 = .ok (.if_acmp .ne 29, 3) := by decide +kernel
theorem dX2_readBoth_24 : decode cX2_readBoth 24 = .ok (.aload_n 0, 1) := by decide +kernel
theorem dX2_readBoth_25 : decode cX2_readBoth 25 = .ok (.invokevirtual 60, 3) := by decide +kernel
theorem dX2_readBoth_28 : decode cX2_readBoth 28 = .ok (.aload_n 0, 1) := by decide +kernel
theorem dX2_readBoth_29 : decode cX2_readBoth 29 = .ok (.iload_n 1, 1) := by decide +kernel
theorem dX2_readBoth_30 : decode cX2_readBoth 30 = .ok (.invokevirtual 224, 3) := by decide +kernel
theorem dX2_readBoth_33 : decode cX2_readBoth 33 = .ok (.aload_n 0, 1) := by decide +kernel
theorem dX2_readBoth_34 : decode cX2_readBoth 34 = .ok (.getfield 44, 3) := by decide +kernel
theorem dX2_readBoth_37 : decode cX2_readBoth 37 = .ok (.getstatic 227, 3) := by decide +kernel
theorem dX2_readBoth_40 : decode cX2_readBoth 40 = .ok (.iconst 0, 1) := by decide +kernel
theorem dX2_readBoth_41 : decode cX2_readBoth 41 = .ok (.invokevirtual 220, 3) := by decide +kernel
theorem dX2_readBoth_44 : decode cX2_readBoth 44 = .ok (.iinc 2 1, 3) := by decide +kernel
theorem dX2_readBoth_47 : decode cX2_readBoth 47 = .ok (.goto (-40), 3) := by decide +kernel
theorem dX2_readBoth_50 : decode cX2_readBoth 50 = .ok (.return_, 1) := by decide +kernel
theorem dX2_readSingle_0 : decode cX2_readSingle 0 = .ok (.aload_n 0, 1) := by decide +kernel
theorem dX2_readSingle_1 : decode cX2_readSingle 1 = .ok (.getfield 25, 3) := by decide +kernel
theorem dX2_readSingle_4 : decode cX2_readSingle 4 = .ok (.getstatic 230, 3) := by decide +kernel
theorem dX2_readSingle_7 : decode cX2_readSingle 7 = .ok (.if_acmp .ne 33, 3) := by decide +kernel
theorem dX2_readSingle_10 : decode cX2_readSingle 10 = .ok (.aload_n 0, 1) := by decide +kernel
theorem dX2_readSingle_11 : decode cX2_readSingle 11 = .ok (.iload_n 1, 1) := by decide +kernel
theorem dX2_readSingle_12 : decode cX2_readSingle 12 = .ok (.invokevirtual 233, 3) := by decide +kernel
theorem dX2_readSingle_15 : decode cX2_readSingle 15 = .ok (.aload_n 0, 1) := by decide +kernel
theorem dX2_readSingle_16 : decode cX2_readSingle 16 = .ok (.invokevirtual 60, 3) := by decide +kernel
theorem dX2_readSingle_19 : decode cX2_readSingle 19 = .ok (.aload_n 0, 1) := by decide +kernel
theorem dX2_readSingle_20 : decode cX2_readSingle 20 = .ok (.iload_n 1, 1) := by decide +kernel
theorem dX2_readSingle_21 : decode cX2_readSingle 21 = .ok (.iconst 1, 1) := by decide +kernel
theorem dX2_readSingle_22 : decode cX2_readSingle 22 = .ok (.iadd, 1) := by decide +kernel
theorem dX2_readSingle_23 : decode cX2_readSingle 23 = .ok (.invokevirtual 224, 3) := by decide +kernel
theorem dX2_readSingle_26 : decode cX2_readSingle 26 = .ok (.aload_n 0, 1) := by decide +kernel
theorem dX2_readSingle_27 : decode cX2_readSingle 27 = .ok (.getfield 44, 3) := by decide +kernel
theorem dX2_readSingle_30 : decode cX2_readSingle 30 = .ok (.getstatic 230, 3) := by decide +kernel
theorem dX2_readSingle_33 : decode cX2_readSingle 33 = .ok (.iconst 0, 1) := by decide +kernel
theorem dX2_readSingle_34 : decode cX2_readSingle 34 = .ok (.invokevirtual 220, 3) := by decide +kernel
theorem dX2_readSingle_37 : decode cX2_readSingle 37 = .ok (.goto 125, 3) := by decide +kernel
theorem dX2_readSingle_40 : decode cX2_readSingle 40 = .ok (.aload_n 0, 1) := by decide +kernel
theorem dX2_readSingle_41 : decode cX2_readSingle 41 = .ok (.getfield 25, 3) := by decide +kernel
theorem dX2_readSingle_44 : decode cX2_readSingle 44 = .ok (.getstatic 236, 3) := by decide +kernel
theorem dX2_readSingle_47 : decode cX2_readSingle 47 = .ok (.if_acmp .ne 29, 3) := by decide +kernel
theorem dX2_readSingle_50 : decode cX2_readSingle 50 = .ok (.aload_n 0, 1) := by decide +kernel
theorem dX2_readSingle_51 : decode cX2_readSingle 51 = .ok (.iload_n 1, 1) := by decide +kernel
theorem dX2_readSingle_52 : decode cX2_readSingle 52 = .ok (.invokevirtual 233, 3) := by decide +kernel
theorem dX2_readSingle_55 : decode cX2_readSingle 55 = .ok (.aload_n 0, 1) := by decide +kernel
theorem dX2_readSingle_56 : decode cX2_readSingle 56 = .ok (.invokevirtual 60, 3) := by decide +kernel
theorem dX2_readSingle_59 : decode cX2_readSingle 59 = .ok (.aload_n 0, 1) := by decide +kernel
theorem dX2_readSingle_60 : decode cX2_readSingle 60 = .ok (.iload_n 1, 1) := by decide +kernel
theorem dX2_readSingle_61 : decode cX2_readSingle 61 = .ok (.iconst 1, 1) := by decide +kernel
theorem dX2_readSingle_62 : decode cX2_readSingle 62 = .ok (.iadd, 1) := by decide +kernel
theorem dX2_readSingle_63 : decode cX2_readSingle 63 = .ok (.invokevirtual 207, 3) := by decide +kernel
theorem dX2_readSingle_66 : decode cX2_readSingle 66 = .ok (.aload_n 0, 1) := by decide +kernel
theorem dX2_readSingle_67 : decode cX2_readSingle 67 = .ok (.getstatic 239, 3) := by decide +kernel
theorem dX2_readSingle_70 : decode cX2_readSingle 70 = .ok (.invokevirtual 94, 3) := by decide +kernel
theorem dX2_readSingle_73 : decode cX2_readSingle 73 = .ok (.goto 89, 3) := by decide +kernel
theorem dX2_readSingle_76 : decode cX2_readSingle 76 = .ok (.aload_n 0, 1) := by decide +kernel
theorem dX2_readSingle_77 : decode cX2_readSingle 77 = .ok (.getfield 25, 3) := by decide +kernel
theorem dX2_readSingle_80 : decode cX2_readSingle 80 = .ok (.getstatic 242, 3) := by decide +kernel
theorem dX2_readSingle_83 : decode cX2_readSingle 83 = .ok (.if_acmp .eq 13, 3) := by decide +kernel
theorem dX2_readSingle_86 : decode cX2_readSingle 86 = .ok (.aload_n 0, 1) := by decide +kernel
theorem dX2_readSingle_87 : decode cX2_readSingle 87 = .ok (.getfield 25, 3) := by decide +kernel
theorem dX2_readSingle_90 : decode cX2_readSingle 90 = .ok (.getstatic 245, 3) := by decide +kernel
theorem dX2_readSingle_93 : decode cX2_readSingle 93 = .ok (.if_acmp .ne 27, 3) := by decide +kernel
theorem dX2_readSingle_96 : decode cX2_readSingle 96 = .ok (.aload_n 0, 1) := by decide +kernel
theorem dX2_readSingle_97 : decode cX2_readSingle 97 = .ok (.getfield 25, 3) := by decide +kernel
theorem dX2_readSingle_100 : decode cX2_readSingle 100 = .ok (.astore_n 2, 1) := by decide +kernel
theorem dX2_readSingle_101 : decode cX2_readSingle 101 = .ok (.aload_n 0, 1) := by decide +kernel
theorem dX2_readSingle_102 : decode cX2_readSingle 102 = .ok (.invokevirtual 60, 3) := by decide +kernel
theorem dX2_readSingle_105 : decode cX2_readSingle 105 = .ok (.aload_n 0, 1) := by decide +kernel
theorem dX2_readSingle_106 : decode cX2_readSingle 106 = .ok (.getfield 44, 3) := by decide +kernel
theorem dX2_readSingle_109 : decode cX2_readSingle 109 = .ok (.aload_n 2, 1) := by decide +kernel
theorem dX2_readSingle_110 : decode cX2_readSingle 110 = .ok (.aload_n 0, 1) := by decide +kernel
theorem dX2_readSingle_111 : decode cX2_readSingle 111 = .ok (.invokevirtual 191, 3) := by decide +kernel
theorem dX2_readSingle_114 : decode cX2_readSingle 114 = .ok (.invokevirtual 220, 3) := by decide +kernel
theorem dX2_readSingle_117 : decode cX2_readSingle 117 = .ok (.goto 45, 3) := by decide +kernel
theorem dX2_readSingle_120 : decode cX2_readSingle 120 = .ok (.aload_n 0, 1) := by decide +kernel
theorem dX2_readSingle_121 : decode cX2_readSingle 121 = .ok (.iload_n 1, 1) := by decide +kernel
theorem dX2_readSingle_122 : decode cX2_readSingle 122 = .ok (.invokevirtual 201, 3) := by decide +kernel
theorem dX2_readSingle_125 : decode cX2_readSingle 125 = .ok (.aload_n 0, 1) := by decide +kernel
theorem dX2_readSingle_126 : decode cX2_readSingle 126 = .ok (.getfield 25, 3) := by decide +kernel
theorem dX2_readSingle_129 : decode cX2_readSingle 129 = .ok (.astore_n 2, 1) := by decide +kernel
theorem dX2_readSingle_130 : decode cX2_readSingle 130 = .ok (.aload_n 0, 1) := by decide +kernel
theorem dX2_readSingle_131 : decode cX2_readSingle 131 = .ok (.invokevirtual 248, 3) := by decide +kernel
theorem dX2_readSingle_134 : decode cX2_readSingle 134 = .ok (.ifCond .eq 10, 3) := by decide +kernel
theorem dX2_readSingle_137 : decode cX2_readSingle 137 = .ok (.aload_n 0, 1) := by decide +kernel
theorem dX2_readSingle_138 : decode cX2_readSingle 138 = .ok (.invokevirtual 60, 3) := by decide +kernel
theorem dX2_readSingle_141 : decode cX2_readSingle 141 = .ok (.goto 7, 3) := by decide +kernel
theorem dX2_readSingle_144 : decode cX2_readSingle 144 = .ok (.aload_n 0, 1) := by decide +kernel
theorem dX2_readSingle_145 : decode cX2_readSingle 145 = .ok (.invokevirtual 108, 3) := by decide +kernel
theorem dX2_readSingle_148 : decode cX2_readSingle 148 = .ok (.aload_n 0, 1) := by decide +kernel
theorem dX2_readSingle_149 : decode cX2_readSingle 149 = .ok (.iload_n 1, 1) := by decide +kernel
theorem dX2_readSingle_150 : decode cX2_readSingle 150 = .ok (.invokevirtual 201, 3) := by decide +kernel
theorem dX2_readSingle_153 : decode cX2_readSingle 153 = .ok (.aload_n 0, 1) := by decide +kernel
theorem dX2_readSingle_154 : decode cX2_readSingle 154 = .ok (.getfield 44, 3) := by decide +kernel
theorem dX2_readSingle_157 : decode cX2_readSingle 157 = .ok (.aload_n 2, 1) := by decide +kernel
theorem dX2_readSingle_158 : decode cX2_readSingle 158 = .ok (.iconst 0, 1) := by decide +kernel
theorem dX2_readSingle_159 : decode cX2_readSingle 159 = .ok (.invokevirtual 220, 3) := by decide +kernel
theorem dX2_readSingle_162 : decode cX2_readSingle 162 = .ok (.return_, 1) := by decide +kernel
theorem dX2_isComparison_0 : decode cX2_isComparison 0 = .ok (.aload_n 0, 1) := by decide +kernel
theorem dX2_isComparison_1 : decode cX2_isComparison 1 = .ok (.getfield 25, 3) := by decide +kernel
theorem dX2_isComparison_4 : decode cX2_isComparison 4 = .ok (.getstatic 252, 3) := by decide +kernel
theorem dX2_isComparison_7 : decode cX2_isComparison 7 = .ok (.if_acmp .eq 43, 3) := by decide +kernel
theorem dX2_isComparison_10 : decode cX2_isComparison 10 = .ok (.aload_n 0, 1) := by decide +kernel
theorem dX2_isComparison_11 : decode cX2_isComparison 11 = .ok (.getfield 25, 3) := by decide +kernel
theorem dX2_isComparison_14 : decode cX2_isComparison 14 = .ok (.getstatic 255, 3) := by decide +kernel
theorem dX2_isComparison_17 : decode cX2_isComparison 17 = .ok (.if_acmp .eq 33, 3) := by decide +kernel
theorem dX2_isComparison_20 : decode cX2_isComparison 20 = .ok (.aload_n 0, 1) := by decide +kernel
theorem dX2_isComparison_21 : decode cX2_isComparison 21 = .ok (.getfield 25, 3) := by decide +kernel
theorem dX2_isComparison_24 : decode cX2_isComparison 24 = .ok (.getstatic 258, 3) := by decide +kernel
theorem dX2_isComparison_27 : decode cX2_isComparison 27 = .ok (.if_acmp .eq 23, 3) := by decide +kernel
theorem dX2_isComparison_30 : decode cX2_isComparison 30 = .ok (.aload_n 0, 1) := by decide +kernel
theorem dX2_isComparison_31 : decode cX2_isComparison 31 = .ok (.getfield 25, 3) := by decide +kernel
theorem dX2_isComparison_34 : decode cX2_isComparison 34 = .ok (.getstatic 261, 3) := by decide +kernel
theorem dX2_isComparison_37 : decode cX2_isComparison 37 = .ok (.if_acmp .eq 13, 3) := by decide +kernel
theorem dX2_isComparison_40 : decode cX2_isComparison 40 = .ok (.aload_n 0, 1) := by decide +kernel
theorem dX2_isComparison_41 : decode cX2_isComparison 41 = .ok (.getfield 25, 3) := by decide +kernel
theorem dX2_isComparison_44 : decode cX2_isComparison 44 = .ok (.getstatic 264, 3) := by decide +kernel
theorem dX2_isComparison_47 : decode cX2_isComparison 47 = .ok (.if_acmp .ne 7, 3) := by decide +kernel
theorem dX2_isComparison_50 : decode cX2_isComparison 50 = .ok (.iconst 1, 1) := by decide +kernel
theorem dX2_isComparison_51 : decode cX2_isComparison 51 = .ok (.goto 4, 3) := by decide +kernel
theorem dX2_isComparison_54 : decode cX2_isComparison 54 = .ok (.iconst 0, 1) := by decide +kernel
theorem dX2_isComparison_55 : decode cX2_isComparison 55 = .ok (.ireturn, 1) := by decide +kernel
theorem dX2_readSum_0 : decode cX2_readSum 0 = .ok (.aload_n 0, 1) := by decide +kernel
theorem dX2_readSum_1 : decode cX2_readSum 1 = .ok (.iload_n 1, 1) := by decide +kernel
theorem dX2_readSum_2 : decode cX2_readSum 2 = .ok (.invokevirtual 267, 3) := by decide +kernel
theorem dX2_readSum_5 : decode cX2_readSum 5 = .ok (.iconst 0, 1) := by decide +kernel
theorem dX2_readSum_6 : decode cX2_readSum 6 = .ok (.istore_n 2, 1) := by decide +kernel
theorem dX2_readSum_7 : decode cX2_readSum 7 = .ok (.iload_n 2, 1) := by decide +kernel
theorem dX2_readSum_8 : decode cX2_readSum 8 = .ok (.sipush 400, 3) := by decide +kernel
theorem dX2_readSum_11 : decode cX2_readSum 11 = .ok (.if_icmp .ge 52, 3) := by decide +kernel
theorem dX2_readSum_14 : decode cX2_readSum 14 = .ok (.aload_n 0, 1) := by decide +kernel
theorem dX2_readSum_15 : decode cX2_readSum 15 = .ok (.getfield 25, 3) := by decide +kernel
theorem dX2_readSum_18 : decode cX2_readSum 18 = .ok (.getstatic 270, 3) := by decide +kernel
theorem dX2_readSum_21 : decode cX2_readSum 21 = .ok (.if_acmp .eq 13, 3) := by decide +kernel
theorem dX2_readSum_24 : decode cX2_readSum 24 = .ok (.aload_n 0, 1) := by decide +kernel
theorem dX2_readSum_25 : decode cX2_readSum 25 = .ok (.getfield 25, 3) := by decide +kernel
theorem dX2_readSum_28 : decode cX2_readSum 28 = .ok (.getstatic 273, 3) := by decide +kernel
theorem dX2_readSum_31 : decode cX2_readSum 31 = .ok (.if_acmp .ne 32, 3) := by decide +kernel
theorem dX2_readSum_34 : decode cX2_readSum 34 = .ok (.aload_n 0, 1) := by decide +kernel
theorem dX2_readSum_35 : decode cX2_readSum 35 = .ok (.getfield 25, 3) := by decide +kernel
theorem dX2_readSum_38 : decode cX2_readSum 38 = .ok (.astore_n 3, 1) := by decide +kernel
theorem dX2_readSum_39 : decode cX2_readSum 39 = .ok (.aload_n 0, 1) := by decide +kernel
theorem dX2_readSum_40 : decode cX2_readSum 40 = .ok (.invokevirtual 60, 3) := by decide +kernel
theorem dX2_readSum_43 : decode cX2_readSum 43 = .ok (.aload_n 0, 1) := by decide +kernel
theorem dX2_readSum_44 : decode cX2_readSum 44 = .ok (.iload_n 1, 1) := by decide +kernel
theorem dX2_readSum_45 : decode cX2_readSum 45 = .ok (.invokevirtual 267, 3) := by decide +kernel
theorem dX2_readSum_48 : decode cX2_readSum 48 = .ok (.aload_n 0, 1) := by decide +kernel
theorem dX2_readSum_49 : decode cX2_readSum 49 = .ok (.getfield 44, 3) := by decide +kernel
theorem dX2_readSum_52 : decode cX2_readSum 52 = .ok (.aload_n 3, 1) := by decide +kernel
theorem dX2_readSum_53 : decode cX2_readSum 53 = .ok (.iconst 0, 1) := by decide +kernel
theorem dX2_readSum_54 : decode cX2_readSum 54 = .ok (.invokevirtual 220, 3) := by decide +kernel
theorem dX2_readSum_57 : decode cX2_readSum 57 = .ok (.iinc 2 1, 3) := by decide +kernel
theorem dX2_readSum_60 : decode cX2_readSum 60 = .ok (.goto (-53), 3) := by decide +kernel
theorem dX2_readSum_63 : decode cX2_readSum 63 = .ok (.return_, 1) := by decide +kernel
theorem dX2_readProduct_0 : decode cX2_readProduct 0 = .ok (.aload_n 0, 1) := by decide +kernel
theorem dX2_readProduct_1 : decode cX2_readProduct 1 = .ok (.iload_n 1, 1) := by decide +kernel
theorem dX2_readProduct_2 : decode cX2_readProduct 2 = .ok (.invokevirtual 276, 3) := by decide +kernel
theorem dX2_readProduct_5 : decode cX2_readProduct 5 = .ok (.iconst 0, 1) := by decide +kernel
theorem dX2_readProduct_6 : decode cX2_readProduct 6 = .ok (.istore_n 2, 1) := by decide +kernel
theorem dX2_readProduct_7 : decode cX2_readProduct 7 = .ok (.iload_n 2, 1) := by decide +kernel
theorem dX2_readProduct_8 : decode cX2_readProduct 8 = .ok (.sipush 400, 3) := by decide +kernel
theorem dX2_readProduct_11 : decode cX2_readProduct 11 = .ok (.if_icmp .ge 52, 3) := by decide +kernel
theorem dX2_readProduct_14 : decode cX2_readProduct 14 = .ok (.aload_n 0, 1) := by decide +kernel
theorem dX2_readProduct_15 : decode cX2_readProduct 15 = .ok (.getfield 25, 3) := by decide +kernel
theorem dX2_readProduct_18 : decode cX2_readProduct 18 = .ok (.getstatic 279, 3) := by decide +kernel
theorem dX2_readProduct_21 : decode cX2_readProduct 21 = .ok (.if_acmp .eq 13, 3) := by decide +kernel
theorem dX2_readProduct_24 : decode cX2_readProduct 24 = .ok (.aload_n 0, 1) := by decide +kernel
theorem dX2_readProduct_25 : decode cX2_readProduct 25 = .ok (.getfield 25, 3) := by decide +kernel
theorem dX2_readProduct_28 : decode cX2_readProduct 28 = .ok (.getstatic 282, 3) := by decide +kernel
theorem dX2_readProduct_31 : decode cX2_readProduct 31 = .ok (.if_acmp .ne 32, 3) := by decide +kernel
theorem dX2_readProduct_34 : decode cX2_readProduct 34 = .ok (.aload_n 0, 1) := by decide +kernel
theorem dX2_readProduct_35 : decode cX2_readProduct 35 = .ok (.getfield 25, 3) := by decide +kernel
theorem dX2_readProduct_38 : decode cX2_readProduct 38 = .ok (.astore_n 3, 1) := by decide +kernel
theorem dX2_readProduct_39 : decode cX2_readProduct 39 = .ok (.aload_n 0, 1) := by decide +kernel
theorem dX2_readProduct_40 : decode cX2_readProduct 40 = .ok (.invokevirtual 60, 3) := by decide +kernel
theorem dX2_readProduct_43 : decode cX2_readProduct 43 = .ok (.aload_n 0, 1) := by decide +kernel
theorem dX2_readProduct_44 : decode cX2_readProduct 44 = .ok (.iload_n 1, 1) := by decide +kernel
theorem dX2_readProduct_45 : decode cX2_readProduct 45 = .ok (.invokevirtual 276, 3) := by decide +kernel
theorem dX2_readProduct_48 : decode cX2_readProduct 48 = .ok (.aload_n 0, 1) := by decide +kernel
theorem dX2_readProduct_49 : decode cX2_readProduct 49 = .ok (.getfield 44, 3) := by decide +kernel
theorem dX2_readProduct_52 : decode cX2_readProduct 52 = .ok (.aload_n 3, 1) := by decide +kernel
theorem dX2_readProduct_53 : decode cX2_readProduct 53 = .ok (.iconst 0, 1) := by decide +kernel
theorem dX2_readProduct_54 : decode cX2_readProduct 54 = .ok (.invokevirtual 220, 3) := by decide +kernel
theorem dX2_readProduct_57 : decode cX2_readProduct 57 = .ok (.iinc 2 1, 3) := by decide +kernel
theorem dX2_readProduct_60 : decode cX2_readProduct 60 = .ok (.goto (-53), 3) := by decide +kernel
theorem dX2_readProduct_63 : decode cX2_readProduct 63 = .ok (.return_, 1) := by decide +kernel
theorem dX2_readValue_0 : decode cX2_readValue 0 = .ok (.aload_n 0, 1) := by decide +kernel
theorem dX2_readValue_1 : decode cX2_readValue 1 = .ok (.getfield 25, 3) := by decide +kernel
theorem dX2_readValue_4 : decode cX2_readValue 4 = .ok (.getstatic 273, 3) := by decide +kernel
theorem dX2_readValue_7 : decode cX2_readValue 7 = .ok (.if_acmp .ne 33, 3) := by decide +kernel
theorem dX2_readValue_10 : decode cX2_readValue 10 = .ok (.aload_n 0, 1) := by decide +kernel
theorem dX2_readValue_11 : decode cX2_readValue 11 = .ok (.iload_n 1, 1) := by decide +kernel
theorem dX2_readValue_12 : decode cX2_readValue 12 = .ok (.invokevirtual 233, 3) := by decide +kernel
theorem dX2_readValue_15 : decode cX2_readValue 15 = .ok (.aload_n 0, 1) := by decide +kernel
theorem dX2_readValue_16 : decode cX2_readValue 16 = .ok (.invokevirtual 60, 3) := by decide +kernel
theorem dX2_readValue_19 : decode cX2_readValue 19 = .ok (.aload_n 0, 1) := by decide +kernel
theorem dX2_readValue_20 : decode cX2_readValue 20 = .ok (.iload_n 1, 1) := by decide +kernel
theorem dX2_readValue_21 : decode cX2_readValue 21 = .ok (.iconst 1, 1) := by decide +kernel
theorem dX2_readValue_22 : decode cX2_readValue 22 = .ok (.iadd, 1) := by decide +kernel
theorem dX2_readValue_23 : decode cX2_readValue 23 = .ok (.invokevirtual 276, 3) := by decide +kernel
theorem dX2_readValue_26 : decode cX2_readValue 26 = .ok (.aload_n 0, 1) := by decide +kernel
theorem dX2_readValue_27 : decode cX2_readValue 27 = .ok (.getfield 44, 3) := by decide +kernel
theorem dX2_readValue_30 : decode cX2_readValue 30 = .ok (.getstatic 285, 3) := by decide +kernel
theorem dX2_readValue_33 : decode cX2_readValue 33 = .ok (.iconst 0, 1) := by decide +kernel
theorem dX2_readValue_34 : decode cX2_readValue 34 = .ok (.invokevirtual 220, 3) := by decide +kernel
theorem dX2_readValue_37 : decode cX2_readValue 37 = .ok (.goto 174, 3) := by decide +kernel
theorem dX2_readValue_40 : decode cX2_readValue 40 = .ok (.aload_n 0, 1) := by decide +kernel
theorem dX2_readValue_41 : decode cX2_readValue 41 = .ok (.getfield 25, 3) := by decide +kernel
theorem dX2_readValue_44 : decode cX2_readValue 44 = .ok (.getstatic 288, 3) := by decide +kernel
theorem dX2_readValue_47 : decode cX2_readValue 47 = .ok (.if_acmp .ne 29, 3) := by decide +kernel
theorem dX2_readValue_50 : decode cX2_readValue 50 = .ok (.aload_n 0, 1) := by decide +kernel
theorem dX2_readValue_51 : decode cX2_readValue 51 = .ok (.iload_n 1, 1) := by decide +kernel
theorem dX2_readValue_52 : decode cX2_readValue 52 = .ok (.invokevirtual 233, 3) := by decide +kernel
theorem dX2_readValue_55 : decode cX2_readValue 55 = .ok (.aload_n 0, 1) := by decide +kernel
theorem dX2_readValue_56 : decode cX2_readValue 56 = .ok (.invokevirtual 60, 3) := by decide +kernel
theorem dX2_readValue_59 : decode cX2_readValue 59 = .ok (.aload_n 0, 1) := by decide +kernel
theorem dX2_readValue_60 : decode cX2_readValue 60 = .ok (.iload_n 1, 1) := by decide +kernel
theorem dX2_readValue_61 : decode cX2_readValue 61 = .ok (.iconst 1, 1) := by decide +kernel
theorem dX2_readValue_62 : decode cX2_readValue 62 = .ok (.iadd, 1) := by decide +kernel
theorem dX2_readValue_63 : decode cX2_readValue 63 = .ok (.invokevirtual 201, 3) := by decide +kernel
theorem dX2_readValue_66 : decode cX2_readValue 66 = .ok (.aload_n 0, 1) := by decide +kernel
theorem dX2_readValue_67 : decode cX2_readValue 67 = .ok (.getstatic 291, 3) := by decide +kernel
theorem dX2_readValue_70 : decode cX2_readValue 70 = .ok (.invokevirtual 94, 3) := by decide +kernel
theorem dX2_readValue_73 : decode cX2_readValue 73 = .ok (.goto 138, 3) := by decide +kernel
theorem dX2_readValue_76 : decode cX2_readValue 76 = .ok (.aload_n 0, 1) := by decide +kernel
theorem dX2_readValue_77 : decode cX2_readValue 77 = .ok (.getfield 25, 3) := by decide +kernel
theorem dX2_readValue_80 : decode cX2_readValue 80 = .ok (.getstatic 294, 3) := by decide +kernel
theorem dX2_readValue_83 : decode cX2_readValue 83 = .ok (.if_acmp .eq 13, 3) := by decide +kernel
theorem dX2_readValue_86 : decode cX2_readValue 86 = .ok (.aload_n 0, 1) := by decide +kernel
theorem dX2_readValue_87 : decode cX2_readValue 87 = .ok (.getfield 25, 3) := by decide +kernel
theorem dX2_readValue_90 : decode cX2_readValue 90 = .ok (.getstatic 297, 3) := by decide +kernel
theorem dX2_readValue_93 : decode cX2_readValue 93 = .ok (.if_acmp .ne 11, 3) := by decide +kernel
theorem dX2_readValue_96 : decode cX2_readValue 96 = .ok (.aload_n 0, 1) := by decide +kernel
theorem dX2_readValue_97 : decode cX2_readValue 97 = .ok (.iload_n 1, 1) := by decide +kernel
theorem dX2_readValue_98 : decode cX2_readValue 98 = .ok (.invokevirtual 300, 3) := by decide +kernel
theorem dX2_readValue_101 : decode cX2_readValue 101 = .ok (.goto 110, 3) := by decide +kernel
theorem dX2_readValue_104 : decode cX2_readValue 104 = .ok (.aload_n 0, 1) := by decide +kernel
theorem dX2_readValue_105 : decode cX2_readValue 105 = .ok (.getfield 25, 3) := by decide +kernel
theorem dX2_readValue_108 : decode cX2_readValue 108 = .ok (.getstatic 303, 3) := by decide +kernel
theorem dX2_readValue_111 : decode cX2_readValue 111 = .ok (.if_acmp .eq 13, 3) := by decide +kernel
theorem dX2_readValue_114 : decode cX2_readValue 114 = .ok (.aload_n 0, 1) := by decide +kernel
theorem dX2_readValue_115 : decode cX2_readValue 115 = .ok (.getfield 25, 3) := by decide +kernel
theorem dX2_readValue_118 : decode cX2_readValue 118 = .ok (.getstatic 306, 3) := by decide +kernel
theorem dX2_readValue_121 : decode cX2_readValue 121 = .ok (.if_acmp .ne 34, 3) := by decide +kernel
theorem dX2_readValue_124 : decode cX2_readValue 124 = .ok (.aload_n 0, 1) := by decide +kernel
theorem dX2_readValue_125 : decode cX2_readValue 125 = .ok (.getfield 25, 3) := by decide +kernel
theorem dX2_readValue_128 : decode cX2_readValue 128 = .ok (.astore_n 2, 1) := by decide +kernel
theorem dX2_readValue_129 : decode cX2_readValue 129 = .ok (.aload_n 0, 1) := by decide +kernel
theorem dX2_readValue_130 : decode cX2_readValue 130 = .ok (.invokevirtual 60, 3) := by decide +kernel
theorem dX2_readValue_133 : decode cX2_readValue 133 = .ok (.aload_n 0, 1) := by decide +kernel
theorem dX2_readValue_134 : decode cX2_readValue 134 = .ok (.getstatic 309, 3) := by decide +kernel
theorem dX2_readValue_137 : decode cX2_readValue 137 = .ok (.invokevirtual 94, 3) := by decide +kernel
theorem dX2_readValue_140 : decode cX2_readValue 140 = .ok (.aload_n 0, 1) := by decide +kernel
theorem dX2_readValue_141 : decode cX2_readValue 141 = .ok (.getfield 44, 3) := by decide +kernel
theorem dX2_readValue_144 : decode cX2_readValue 144 = .ok (.aload_n 2, 1) := by decide +kernel
theorem dX2_readValue_145 : decode cX2_readValue 145 = .ok (.aload_n 0, 1) := by decide +kernel
theorem dX2_readValue_146 : decode cX2_readValue 146 = .ok (.invokevirtual 191, 3) := by decide +kernel
theorem dX2_readValue_149 : decode cX2_readValue 149 = .ok (.invokevirtual 220, 3) := by decide +kernel
theorem dX2_readValue_152 : decode cX2_readValue 152 = .ok (.goto 59, 3) := by decide +kernel
theorem dX2_readValue_155 : decode cX2_readValue 155 = .ok (.aload_n 0, 1) := by decide +kernel
theorem dX2_readValue_156 : decode cX2_readValue 156 = .ok (.getfield 25, 3) := by decide +kernel
theorem dX2_readValue_159 : decode cX2_readValue 159 = .ok (.getstatic 178, 3) := by decide +kernel
theorem dX2_readValue_162 : decode cX2_readValue 162 = .ok (.if_acmp .eq 23, 3) := by decide +kernel
theorem dX2_readValue_165 : decode cX2_readValue 165 = .ok (.aload_n 0, 1) := by decide +kernel
theorem dX2_readValue_166 : decode cX2_readValue 166 = .ok (.getfield 25, 3) := by decide +kernel
theorem dX2_readValue_169 : decode cX2_readValue 169 = .ok (.getstatic 312, 3) := by decide +kernel
theorem dX2_readValue_172 : decode cX2_readValue 172 = .ok (.if_acmp .eq 13, 3) := by decide +kernel
theorem dX2_readValue_175 : decode cX2_readValue 175 = .ok (.aload_n 0, 1) := by decide +kernel
theorem dX2_readValue_176 : decode cX2_readValue 176 = .ok (.getfield 25, 3) := by decide +kernel
theorem dX2_readValue_179 : decode cX2_readValue 179 = .ok (.getstatic 315, 3) := by decide +kernel
theorem dX2_readValue_182 : decode cX2_readValue 182 = .ok (.if_acmp .ne 25, 3) := by decide +kernel
theorem dX2_readValue_185 : decode cX2_readValue 185 = .ok (.aload_n 0, 1) := by decide +kernel
theorem dX2_readValue_186 : decode cX2_readValue 186 = .ok (.getfield 44, 3) := by decide +kernel
theorem dX2_readValue_189 : decode cX2_readValue 189 = .ok (.aload_n 0, 1) := by decide +kernel
theorem dX2_readValue_190 : decode cX2_readValue 190 = .ok (.getfield 25, 3) := by decide +kernel
theorem dX2_readValue_193 : decode cX2_readValue 193 = .ok (.aload_n 0, 1) := by decide +kernel
theorem dX2_readValue_194 : decode cX2_readValue 194 = .ok (.getfield 31, 3) := by decide +kernel
theorem dX2_readValue_197 : decode cX2_readValue 197 = .ok (.invokevirtual 220, 3) := by decide +kernel
theorem dX2_readValue_200 : decode cX2_readValue 200 = .ok (.aload_n 0, 1) := by decide +kernel
theorem dX2_readValue_201 : decode cX2_readValue 201 = .ok (.invokevirtual 60, 3) := by decide +kernel
theorem dX2_readValue_204 : decode cX2_readValue 204 = .ok (.goto 7, 3) := by decide +kernel
theorem dX2_readValue_207 : decode cX2_readValue 207 = .ok (.aload_n 0, 1) := by decide +kernel
theorem dX2_readValue_208 : decode cX2_readValue 208 = .ok (.invokevirtual 108, 3) := by decide +kernel
theorem dX2_readValue_211 : decode cX2_readValue 211 = .ok (.return_, 1) := by decide +kernel
theorem dX2_readChoice_0 : decode cX2_readChoice 0 = .ok (.aload_n 0, 1) := by decide +kernel
theorem dX2_readChoice_1 : decode cX2_readChoice 1 = .ok (.getfield 25, 3) := by decide +kernel
theorem dX2_readChoice_4 : decode cX2_readChoice 4 = .ok (.astore_n 2, 1) := by decide +kernel
theorem dX2_readChoice_5 : decode cX2_readChoice 5 = .ok (.aload_n 0, 1) := by decide +kernel
theorem dX2_readChoice_6 : decode cX2_readChoice 6 = .ok (.invokevirtual 60, 3) := by decide +kernel
theorem dX2_readChoice_9 : decode cX2_readChoice 9 = .ok (.aload_n 0, 1) := by decide +kernel
theorem dX2_readChoice_10 : decode cX2_readChoice 10 = .ok (.getfield 25, 3) := by decide +kernel
theorem dX2_readChoice_13 : decode cX2_readChoice 13 = .ok (.getstatic 288, 3) := by decide +kernel
theorem dX2_readChoice_16 : decode cX2_readChoice 16 = .ok (.if_acmp .eq 7, 3) := by decide +kernel
theorem dX2_readChoice_19 : decode cX2_readChoice 19 = .ok (.aload_n 0, 1) := by decide +kernel
theorem dX2_readChoice_20 : decode cX2_readChoice 20 = .ok (.invokevirtual 108, 3) := by decide +kernel
theorem dX2_readChoice_23 : decode cX2_readChoice 23 = .ok (.aload_n 0, 1) := by decide +kernel
theorem dX2_readChoice_24 : decode cX2_readChoice 24 = .ok (.iload_n 1, 1) := by decide +kernel
theorem dX2_readChoice_25 : decode cX2_readChoice 25 = .ok (.invokevirtual 233, 3) := by decide +kernel
theorem dX2_readChoice_28 : decode cX2_readChoice 28 = .ok (.aload_n 0, 1) := by decide +kernel
theorem dX2_readChoice_29 : decode cX2_readChoice 29 = .ok (.invokevirtual 60, 3) := by decide +kernel
theorem dX2_readChoice_32 : decode cX2_readChoice 32 = .ok (.aload_n 0, 1) := by decide +kernel
theorem dX2_readChoice_33 : decode cX2_readChoice 33 = .ok (.iload_n 1, 1) := by decide +kernel
theorem dX2_readChoice_34 : decode cX2_readChoice 34 = .ok (.iconst 1, 1) := by decide +kernel
theorem dX2_readChoice_35 : decode cX2_readChoice 35 = .ok (.iadd, 1) := by decide +kernel
theorem dX2_readChoice_36 : decode cX2_readChoice 36 = .ok (.invokevirtual 201, 3) := by decide +kernel
theorem dX2_readChoice_39 : decode cX2_readChoice 39 = .ok (.aload_n 0, 1) := by decide +kernel
theorem dX2_readChoice_40 : decode cX2_readChoice 40 = .ok (.getstatic 120, 3) := by decide +kernel
theorem dX2_readChoice_43 : decode cX2_readChoice 43 = .ok (.invokevirtual 94, 3) := by decide +kernel
theorem dX2_readChoice_46 : decode cX2_readChoice 46 = .ok (.aload_n 0, 1) := by decide +kernel
theorem dX2_readChoice_47 : decode cX2_readChoice 47 = .ok (.iload_n 1, 1) := by decide +kernel
theorem dX2_readChoice_48 : decode cX2_readChoice 48 = .ok (.iconst 1, 1) := by decide +kernel
theorem dX2_readChoice_49 : decode cX2_readChoice 49 = .ok (.iadd, 1) := by decide +kernel
theorem dX2_readChoice_50 : decode cX2_readChoice 50 = .ok (.invokevirtual 201, 3) := by decide +kernel
theorem dX2_readChoice_53 : decode cX2_readChoice 53 = .ok (.aload_n 0, 1) := by decide +kernel
theorem dX2_readChoice_54 : decode cX2_readChoice 54 = .ok (.getstatic 291, 3) := by decide +kernel
theorem dX2_readChoice_57 : decode cX2_readChoice 57 = .ok (.invokevirtual 94, 3) := by decide +kernel
theorem dX2_readChoice_60 : decode cX2_readChoice 60 = .ok (.aload_n 0, 1) := by decide +kernel
theorem dX2_readChoice_61 : decode cX2_readChoice 61 = .ok (.getfield 44, 3) := by decide +kernel
theorem dX2_readChoice_64 : decode cX2_readChoice 64 = .ok (.aload_n 2, 1) := by decide +kernel
theorem dX2_readChoice_65 : decode cX2_readChoice 65 = .ok (.iconst 0, 1) := by decide +kernel
theorem dX2_readChoice_66 : decode cX2_readChoice 66 = .ok (.invokevirtual 220, 3) := by decide +kernel
theorem dX2_readChoice_69 : decode cX2_readChoice 69 = .ok (.return_, 1) := by decide +kernel
theorem dX3_init_0 : decode cX3_init 0 = .ok (.aload_n 0, 1) := by decide +kernel
theorem dX3_init_1 : decode cX3_init 1 = .ok (.invokespecial 3, 3) := by decide +kernel
theorem dX3_init_4 : decode cX3_init 4 = .ok (.aload_n 0, 1) := by decide +kernel
theorem dX3_init_5 : decode cX3_init 5 = .ok (.bipush 24, 2) := by decide +kernel
theorem dX3_init_7 : decode cX3_init 7 = .ok (.newarray .int, 2) := by decide +kernel
theorem dX3_init_9 : decode cX3_init 9 = .ok (.putfield 9, 3) := by decide +kernel
theorem dX3_init_12 : decode cX3_init 12 = .ok (.aload_n 0, 1) := by decide +kernel
theorem dX3_init_13 : decode cX3_init 13 = .ok (.iconst 0, 1) := by decide +kernel
theorem dX3_init_14 : decode cX3_init 14 = .ok (.putfield 15, 3) := by decide +kernel
theorem dX3_init_17 : decode cX3_init 17 = .ok (.return_, 1) := by decide +kernel
theorem dX3_pitch_0 : decode cX3_pitch 0 = .ok (.iload_n 1, 1) := by decide +kernel
theorem dX3_pitch_1 : decode cX3_pitch 1 = .ok (.ifCond .lt 21, 3) := by decide +kernel
theorem dX3_pitch_4 : decode cX3_pitch 4 = .ok (.iload_n 1, 1) := by decide +kernel
theorem dX3_pitch_5 : decode cX3_pitch 5 = .ok (.aload_n 0, 1) := by decide +kernel
theorem dX3_pitch_6 : decode cX3_pitch 6 = .ok (.getfield 9, 3) := by decide +kernel
theorem dX3_pitch_9 : decode cX3_pitch 9 = .ok (.arraylength, 1) := by decide +kernel
theorem dX3_pitch_10 : decode cX3_pitch 10 = .ok (.if_icmp .ge 12, 3) := by decide +kernel
theorem dX3_pitch_13 : decode cX3_pitch 13 = .ok (.aload_n 0, 1) := by decide +kernel
theorem dX3_pitch_14 : decode cX3_pitch 14 = .ok (.getfield 9, 3) := by decide +kernel
theorem dX3_pitch_17 : decode cX3_pitch 17 = .ok (.iload_n 1, 1) := by decide +kernel
theorem dX3_pitch_18 : decode cX3_pitch 18 = .ok (.iaload, 1) := by decide +kernel
theorem dX3_pitch_19 : decode cX3_pitch 19 = .ok (.goto 4, 3) := by decide +kernel
theorem dX3_pitch_22 : decode cX3_pitch 22 = .ok (.iconst 0, 1) := by decide +kernel
theorem dX3_pitch_23 : decode cX3_pitch 23 = .ok (.ireturn, 1) := by decide +kernel
theorem dX3_contour_0 : decode cX3_contour 0 = .ok (.iload_n 1, 1) := by decide +kernel
theorem dX3_contour_1 : decode cX3_contour 1 = .ok (.ifCond .lt 13, 3) := by decide +kernel
theorem dX3_contour_4 : decode cX3_contour 4 = .ok (.iload_n 1, 1) := by decide +kernel
theorem dX3_contour_5 : decode cX3_contour 5 = .ok (.aload_n 0, 1) := by decide +kernel
theorem dX3_contour_6 : decode cX3_contour 6 = .ok (.getfield 15, 3) := by decide +kernel
theorem dX3_contour_9 : decode cX3_contour 9 = .ok (.iconst 1, 1) := by decide +kernel
theorem dX3_contour_10 : decode cX3_contour 10 = .ok (.isub, 1) := by decide +kernel
theorem dX3_contour_11 : decode cX3_contour 11 = .ok (.if_icmp .lt 5, 3) := by decide +kernel
theorem dX3_contour_14 : decode cX3_contour 14 = .ok (.iconst 0, 1) := by decide +kernel
theorem dX3_contour_15 : decode cX3_contour 15 = .ok (.ireturn, 1) := by decide +kernel
theorem dX3_contour_16 : decode cX3_contour 16 = .ok (.aload_n 0, 1) := by decide +kernel
theorem dX3_contour_17 : decode cX3_contour 17 = .ok (.iload_n 1, 1) := by decide +kernel
theorem dX3_contour_18 : decode cX3_contour 18 = .ok (.invokevirtual 19, 3) := by decide +kernel
theorem dX3_contour_21 : decode cX3_contour 21 = .ok (.istore_n 2, 1) := by decide +kernel
theorem dX3_contour_22 : decode cX3_contour 22 = .ok (.aload_n 0, 1) := by decide +kernel
theorem dX3_contour_23 : decode cX3_contour 23 = .ok (.iload_n 1, 1) := by decide +kernel
theorem dX3_contour_24 : decode cX3_contour 24 = .ok (.iconst 1, 1) := by decide +kernel
theorem dX3_contour_25 : decode cX3_contour 25 = .ok (.iadd, 1) := by decide +kernel
theorem dX3_contour_26 : decode cX3_contour 26 = .ok (.invokevirtual 19, 3) := by decide +kernel
theorem dX3_contour_29 : decode cX3_contour 29 = .ok (.istore_n 3, 1) := by decide +kernel
theorem dX3_contour_30 : decode cX3_contour 30 = .ok (.iload_n 3, 1) := by decide +kernel
theorem dX3_contour_31 : decode cX3_contour 31 = .ok (.iload_n 2, 1) := by decide +kernel
theorem dX3_contour_32 : decode cX3_contour 32 = .ok (.if_icmp .le 7, 3) := by decide +kernel
theorem dX3_contour_35 : decode cX3_contour 35 = .ok (.iconst 1, 1) := by decide +kernel
theorem dX3_contour_36 : decode cX3_contour 36 = .ok (.goto 13, 3) := by decide +kernel
theorem dX3_contour_39 : decode cX3_contour 39 = .ok (.iload_n 3, 1) := by decide +kernel
theorem dX3_contour_40 : decode cX3_contour 40 = .ok (.iload_n 2, 1) := by decide +kernel
theorem dX3_contour_41 : decode cX3_contour 41 = .ok (.if_icmp .ge 7, 3) := by decide +kernel
theorem dX3_contour_44 : decode cX3_contour 44 = .ok (.iconst (-1), 1) := by decide +kernel
theorem dX3_contour_45 : decode cX3_contour 45 = .ok (.goto 4, 3) := by decide +kernel
theorem dX3_contour_48 : decode cX3_contour 48 = .ok (.iconst 0, 1) := by decide +kernel
theorem dX3_contour_49 : decode cX3_contour 49 = .ok (.ireturn, 1) := by decide +kernel
theorem dX3_countSilent_0 : decode cX3_countSilent 0 = .ok (.iconst 0, 1) := by decide +kernel
theorem dX3_countSilent_1 : decode cX3_countSilent 1 = .ok (.istore_n 1, 1) := by decide +kernel
theorem dX3_countSilent_2 : decode cX3_countSilent 2 = .ok (.iconst 0, 1) := by decide +kernel
theorem dX3_countSilent_3 : decode cX3_countSilent 3 = .ok (.istore_n 2, 1) := by decide +kernel
theorem dX3_countSilent_4 : decode cX3_countSilent 4 = .ok (.iload_n 2, 1) := by decide +kernel
theorem dX3_countSilent_5 : decode cX3_countSilent 5 = .ok (.aload_n 0, 1) := by decide +kernel
theorem dX3_countSilent_6 : decode cX3_countSilent 6 = .ok (.getfield 15, 3) := by decide +kernel
theorem dX3_countSilent_9 : decode cX3_countSilent 9 = .ok (.if_icmp .ge 20, 3) := by decide +kernel
theorem dX3_countSilent_12 : decode cX3_countSilent 12 = .ok (.aload_n 0, 1) := by decide +kernel
theorem dX3_countSilent_13 : decode cX3_countSilent 13 = .ok (.iload_n 2, 1) := by decide +kernel
theorem dX3_countSilent_14 : decode cX3_countSilent 14 = .ok (.invokevirtual 19, 3) := by decide +kernel
theorem dX3_countSilent_17 : decode cX3_countSilent 17 = .ok (.ifCond .ne 6, 3) := by decide +kernel
theorem dX3_countSilent_20 : decode cX3_countSilent 20 = .ok (.iinc 1 1, 3) := by decide +kernel
theorem dX3_countSilent_23 : decode cX3_countSilent 23 = .ok (.iinc 2 1, 3) := by decide +kernel
theorem dX3_countSilent_26 : decode cX3_countSilent 26 = .ok (.goto (-22), 3) := by decide +kernel
theorem dX3_countSilent_29 : decode cX3_countSilent 29 = .ok (.iload_n 1, 1) := by decide +kernel
theorem dX3_countSilent_30 : decode cX3_countSilent 30 = .ok (.ireturn, 1) := by decide +kernel
theorem dX3_add_0 : decode cX3_add 0 = .ok (.aload_n 0, 1) := by decide +kernel
theorem dX3_add_1 : decode cX3_add 1 = .ok (.getfield 15, 3) := by decide +kernel
theorem dX3_add_4 : decode cX3_add 4 = .ok (.ifCond .lt 35, 3) := by decide +kernel
theorem dX3_add_7 : decode cX3_add 7 = .ok (.aload_n 0, 1) := by decide +kernel
theorem dX3_add_8 : decode cX3_add 8 = .ok (.getfield 15, 3) := by decide +kernel
theorem dX3_add_11 : decode cX3_add 11 = .ok (.aload_n 0, 1) := by decide +kernel
theorem dX3_add_12 : decode cX3_add 12 = .ok (.getfield 9, 3) := by decide +kernel
theorem dX3_add_15 : decode cX3_add 15 = .ok (.arraylength, 1) := by decide +kernel
theorem dX3_add_16 : decode cX3_add 16 = .ok (.if_icmp .ge 23, 3) := by decide +kernel
theorem dX3_add_19 : decode cX3_add 19 = .ok (.aload_n 0, 1) := by decide +kernel
theorem dX3_add_20 : decode cX3_add 20 = .ok (.getfield 9, 3) := by decide +kernel
theorem dX3_add_23 : decode cX3_add 23 = .ok (.aload_n 0, 1) := by decide +kernel
theorem dX3_add_24 : decode cX3_add 24 = .ok (.getfield 15, 3) := by decide +kernel
theorem dX3_add_27 : decode cX3_add 27 = .ok (.iload_n 1, 1) := by decide +kernel
theorem dX3_add_28 : decode cX3_add 28 = .ok (.iastore, 1) := by decide +kernel
theorem dX3_add_29 : decode cX3_add 29 = .ok (.aload_n 0, 1) := by decide +kernel
theorem dX3_add_30 : decode cX3_add 30 = .ok (.dup, 1) := by decide +kernel
theorem dX3_add_31 : decode cX3_add 31 = .ok (.getfield 15, 3) := by decide +kernel
theorem dX3_add_34 : decode cX3_add 34 = .ok (.iconst 1, 1) := by decide +kernel
theorem dX3_add_35 : decode cX3_add 35 = .ok (.iadd, 1) := by decide +kernel
theorem dX3_add_36 : decode cX3_add 36 = .ok (.putfield 15, 3) := by decide +kernel
theorem dX3_add_39 : decode cX3_add 39 = .ok (.return_, 1) := by decide +kernel
theorem dX3_addGlide_0 : decode cX3_addGlide 0 = .ok (.iconst 0, 1) := by decide +kernel
theorem dX3_addGlide_1 : decode cX3_addGlide 1 = .ok (.istore 4, 2) := by decide +kernel
theorem dX3_addGlide_3 : decode cX3_addGlide 3 = .ok (.iload 4, 2) := by decide +kernel
theorem dX3_addGlide_5 : decode cX3_addGlide 5 = .ok (.iload_n 3, 1) := by decide +kernel
theorem dX3_addGlide_6 : decode cX3_addGlide 6 = .ok (.if_icmp .ge 32, 3) := by decide +kernel
theorem dX3_addGlide_9 : decode cX3_addGlide 9 = .ok (.iload 4, 2) := by decide +kernel
theorem dX3_addGlide_11 : decode cX3_addGlide 11 = .ok (.bipush 9, 2) := by decide +kernel
theorem dX3_addGlide_13 : decode cX3_addGlide 13 = .ok (.if_icmp .ge 25, 3) := by decide +kernel
theorem dX3_addGlide_16 : decode cX3_addGlide 16 = .ok (.aload_n 0, 1) := by decide +kernel
theorem dX3_addGlide_17 : decode cX3_addGlide 17 = .ok (.iload_n 1, 1) := by decide +kernel
theorem dX3_addGlide_18 : decode cX3_addGlide 18 = .ok (.iload_n 2, 1) := by decide +kernel
theorem dX3_addGlide_19 : decode cX3_addGlide 19 = .ok (.iload_n 1, 1) := by decide +kernel
theorem dX3_addGlide_20 : decode cX3_addGlide 20 = .ok (.isub, 1) := by decide +kernel
theorem dX3_addGlide_21 : decode cX3_addGlide 21 = .ok (.iload 4, 2) := by decide +kernel
theorem dX3_addGlide_23 : decode cX3_addGlide 23 = .ok (.imul, 1) := by decide +kernel
theorem dX3_addGlide_24 : decode cX3_addGlide 24 = .ok (.iload_n 3, 1) := by decide +kernel
theorem dX3_addGlide_25 : decode cX3_addGlide 25 = .ok (.invokestatic 23, 3) := by decide +kernel
theorem dX3_addGlide_28 : decode cX3_addGlide 28 = .ok (.iadd, 1) := by decide +kernel
theorem dX3_addGlide_29 : decode cX3_addGlide 29 = .ok (.invokevirtual 27, 3) := by decide +kernel
theorem dX3_addGlide_32 : decode cX3_addGlide 32 = .ok (.iinc 4 1, 3) := by decide +kernel
theorem dX3_addGlide_35 : decode cX3_addGlide 35 = .ok (.goto (-32), 3) := by decide +kernel
theorem dX3_addGlide_38 : decode cX3_addGlide 38 = .ok (.return_, 1) := by decide +kernel
theorem dX3_copyFrom_0 : decode cX3_copyFrom 0 = .ok (.aload_n 0, 1) := by decide +kernel
theorem dX3_copyFrom_1 : decode cX3_copyFrom 1 = .ok (.aload_n 1, 1) := by decide +kernel
theorem dX3_copyFrom_2 : decode cX3_copyFrom 2 = .ok (.getfield 15, 3) := by decide +kernel
theorem dX3_copyFrom_5 : decode cX3_copyFrom 5 = .ok (.putfield 15, 3) := by decide +kernel
theorem dX3_copyFrom_8 : decode cX3_copyFrom 8 = .ok (.iconst 0, 1) := by decide +kernel
theorem dX3_copyFrom_9 : decode cX3_copyFrom 9 = .ok (.istore_n 2, 1) := by decide +kernel
theorem dX3_copyFrom_10 : decode cX3_copyFrom 10 = .ok (.iload_n 2, 1) := by decide +kernel
theorem dX3_copyFrom_11 : decode cX3_copyFrom 11 = .ok (.aload_n 0, 1) := by decide +kernel
theorem dX3_copyFrom_12 : decode cX3_copyFrom 12 = .ok (.getfield 9, 3) := by decide +kernel
theorem dX3_copyFrom_15 : decode cX3_copyFrom 15 = .ok (.arraylength, 1) := by decide +kernel
theorem dX3_copyFrom_16 : decode cX3_copyFrom 16 = .ok (.if_icmp .ge 20, 3) := by decide +kernel
theorem dX3_copyFrom_19 : decode cX3_copyFrom 19 = .ok (.aload_n 0, 1) := by decide +kernel
theorem dX3_copyFrom_20 : decode cX3_copyFrom 20 = .ok (.getfield 9, 3) := by decide +kernel
theorem dX3_copyFrom_23 : decode cX3_copyFrom 23 = .ok (.iload_n 2, 1) := by decide +kernel
theorem dX3_copyFrom_24 : decode cX3_copyFrom 24 = .ok (.aload_n 1, 1) := by decide +kernel
theorem dX3_copyFrom_25 : decode cX3_copyFrom 25 = .ok (.iload_n 2, 1) := by decide +kernel
theorem dX3_copyFrom_26 : decode cX3_copyFrom 26 = .ok (.invokevirtual 19, 3) := by decide +kernel
theorem dX3_copyFrom_29 : decode cX3_copyFrom 29 = .ok (.iastore, 1) := by decide +kernel
theorem dX3_copyFrom_30 : decode cX3_copyFrom 30 = .ok (.iinc 2 1, 3) := by decide +kernel
theorem dX3_copyFrom_33 : decode cX3_copyFrom 33 = .ok (.goto (-23), 3) := by decide +kernel
theorem dX3_copyFrom_36 : decode cX3_copyFrom 36 = .ok (.return_, 1) := by decide +kernel
theorem dX3_traceContour_0 : decode cX3_traceContour 0 = .ok (.aload_n 0, 1) := by decide +kernel
theorem dX3_traceContour_1 : decode cX3_traceContour 1 = .ok (.aload_n 1, 1) := by decide +kernel
theorem dX3_traceContour_2 : decode cX3_traceContour 2 = .ok (.getfield 15, 3) := by decide +kernel
theorem dX3_traceContour_5 : decode cX3_traceContour 5 = .ok (.putfield 15, 3) := by decide +kernel
theorem dX3_traceContour_8 : decode cX3_traceContour 8 = .ok (.iconst 0, 1) := by decide +kernel
theorem dX3_traceContour_9 : decode cX3_traceContour 9 = .ok (.istore_n 2, 1) := by decide +kernel
theorem dX3_traceContour_10 : decode cX3_traceContour 10 = .ok (.iload_n 2, 1) := by decide +kernel
theorem dX3_traceContour_11 : decode cX3_traceContour 11 = .ok (.aload_n 0, 1) := by decide +kernel
theorem dX3_traceContour_12 : decode cX3_traceContour 12 = .ok (.getfield 9, 3) := by decide +kernel
theorem dX3_traceContour_15 : decode cX3_traceContour 15 = .ok (.arraylength, 1) := by decide +kernel
theorem dX3_traceContour_16 : decode cX3_traceContour 16 = .ok (.if_icmp .ge 20, 3) := by decide +kernel
theorem dX3_traceContour_19 : decode cX3_traceContour 19 = .ok (.aload_n 0, 1) := by decide +kernel
theorem dX3_traceContour_20 : decode cX3_traceContour 20 = .ok (.getfield 9, 3) := by decide +kernel
theorem dX3_traceContour_23 : decode cX3_traceContour 23 = .ok (.iload_n 2, 1) := by decide +kernel
theorem dX3_traceContour_24 : decode cX3_traceContour 24 = .ok (.aload_n 1, 1) := by decide +kernel
theorem dX3_traceContour_25 : decode cX3_traceContour 25 = .ok (.iload_n 2, 1) := by decide +kernel
theorem dX3_traceContour_26 : decode cX3_traceContour 26 = .ok (.invokevirtual 31, 3) := by decide +kernel
theorem dX3_traceContour_29 : decode cX3_traceContour 29 = .ok (.iastore, 1) := by decide +kernel
theorem dX3_traceContour_30 : decode cX3_traceContour 30 = .ok (.iinc 2 1, 3) := by decide +kernel
theorem dX3_traceContour_33 : decode cX3_traceContour 33 = .ok (.goto (-23), 3) := by decide +kernel
theorem dX3_traceContour_36 : decode cX3_traceContour 36 = .ok (.return_, 1) := by decide +kernel
theorem dX3_shift_0 : decode cX3_shift 0 = .ok (.iconst 0, 1) := by decide +kernel
theorem dX3_shift_1 : decode cX3_shift 1 = .ok (.istore_n 2, 1) := by decide +kernel
theorem dX3_shift_2 : decode cX3_shift 2 = .ok (.iconst 0, 1) := by decide +kernel
theorem dX3_shift_3 : decode cX3_shift 3 = .ok (.istore_n 3, 1) := by decide +kernel
theorem dX3_shift_4 : decode cX3_shift 4 = .ok (.iload_n 3, 1) := by decide +kernel
theorem dX3_shift_5 : decode cX3_shift 5 = .ok (.aload_n 0, 1) := by decide +kernel
theorem dX3_shift_6 : decode cX3_shift 6 = .ok (.getfield 9, 3) := by decide +kernel
theorem dX3_shift_9 : decode cX3_shift 9 = .ok (.arraylength, 1) := by decide +kernel
theorem dX3_shift_10 : decode cX3_shift 10 = .ok (.if_icmp .ge 93, 3) := by decide +kernel
theorem dX3_shift_13 : decode cX3_shift 13 = .ok (.iload_n 3, 1) := by decide +kernel
theorem dX3_shift_14 : decode cX3_shift 14 = .ok (.aload_n 0, 1) := by decide +kernel
theorem dX3_shift_15 : decode cX3_shift 15 = .ok (.getfield 15, 3) := by decide +kernel
theorem dX3_shift_18 : decode cX3_shift 18 = .ok (.if_icmp .ge 85, 3) := by decide +kernel
theorem dX3_shift_21 : decode cX3_shift 21 = .ok (.aload_n 0, 1) := by decide +kernel
theorem dX3_shift_22 : decode cX3_shift 22 = .ok (.getfield 9, 3) := by decide +kernel
theorem dX3_shift_25 : decode cX3_shift 25 = .ok (.iload_n 3, 1) := by decide +kernel
theorem dX3_shift_26 : decode cX3_shift 26 = .ok (.iaload, 1) := by decide +kernel
theorem dX3_shift_27 : decode cX3_shift 27 = .ok (.istore 4, 2) := by decide +kernel
theorem dX3_shift_29 : decode cX3_shift 29 = .ok (.iload 4, 2) := by decide +kernel
theorem dX3_shift_31 : decode cX3_shift 31 = .ok (.ifCond .eq 66, 3) := by decide +kernel
theorem dX3_shift_34 : decode cX3_shift 34 = .ok (.iload 4, 2) := by decide +kernel
theorem dX3_shift_36 : decode cX3_shift 36 = .ok (.i2l, 1) := by decide +kernel
theorem dX3_shift_37 : decode cX3_shift 37 = .ok (.iload_n 1, 1) := by decide +kernel
theorem dX3_shift_38 : decode cX3_shift 38 = .ok (.i2l, 1) := by decide +kernel
theorem dX3_shift_39 : decode cX3_shift 39 = .ok (.ladd, 1) := by decide +kernel
theorem dX3_shift_40 : decode cX3_shift 40 = .ok (.lstore 5, 2) := by decide +kernel
theorem dX3_shift_42 : decode cX3_shift 42 = .ok (.aload_n 0, 1) := by decide +kernel
theorem dX3_shift_43 : decode cX3_shift 43 = .ok (.getfield 9, 3) := by decide +kernel
theorem dX3_shift_46 : decode cX3_shift 46 = .ok (.iload_n 3, 1) := by decide +kernel
theorem dX3_shift_47 : decode cX3_shift 47 = .ok (.lload 5, 2) := by decide +kernel
theorem dX3_shift_49 : decode cX3_shift 49 = .ok (.lconst 1, 1) := by decide +kernel
theorem dX3_shift_50 : decode cX3_shift 50 = .ok (.lcmp, 1) := by decide +kernel
theorem dX3_shift_51 : decode cX3_shift 51 = .ok (.ifCond .ge 7, 3) := by decide +kernel
theorem dX3_shift_54 : decode cX3_shift 54 = .ok (.iconst 1, 1) := by decide +kernel
theorem dX3_shift_55 : decode cX3_shift 55 = .ok (.goto 20, 3) := by decide +kernel
theorem dX3_shift_58 : decode cX3_shift 58 = .ok (.lload 5, 2) := by decide +kernel
theorem dX3_shift_60 : decode cX3_shift 60 = .ok (.ldc2_w 34, 3) := by decide +kernel
theorem dX3_shift_63 : decode cX3_shift 63 = .ok (.lcmp, 1) := by decide +kernel
theorem dX3_shift_64 : decode cX3_shift 64 = .ok (.ifCond .le 8, 3) := by decide +kernel
theorem dX3_shift_67 : decode cX3_shift 67 = .ok (.bipush 40, 2) := by decide +kernel
theorem dX3_shift_69 : decode cX3_shift 69 = .ok (.goto 6, 3) := by decide +kernel
theorem dX3_shift_72 : decode cX3_shift 72 = .ok (.lload 5, 2) := by decide +kernel
theorem dX3_shift_74 : decode cX3_shift 74 = .ok (.l2i, 1) := by decide +kernel
theorem dX3_shift_75 : decode cX3_shift 75 = .ok (.iastore, 1) := by decide +kernel
theorem dX3_shift_76 : decode cX3_shift 76 = .ok (.iload_n 2, 1) := by decide +kernel
theorem dX3_shift_77 : decode cX3_shift 77 = .ok (.ifCond .ne 14, 3) := by decide +kernel
theorem dX3_shift_80 : decode cX3_shift 80 = .ok (.aload_n 0, 1) := by decide +kernel
theorem dX3_shift_81 : decode cX3_shift 81 = .ok (.getfield 9, 3) := by decide +kernel
theorem dX3_shift_84 : decode cX3_shift 84 = .ok (.iload_n 3, 1) := by decide +kernel
theorem dX3_shift_85 : decode cX3_shift 85 = .ok (.iaload, 1) := by decide +kernel
theorem dX3_shift_86 : decode cX3_shift 86 = .ok (.iload 4, 2) := by decide +kernel
theorem dX3_shift_88 : decode cX3_shift 88 = .ok (.if_icmp .eq 7, 3) := by decide +kernel
theorem dX3_shift_91 : decode cX3_shift 91 = .ok (.iconst 1, 1) := by decide +kernel
theorem dX3_shift_92 : decode cX3_shift 92 = .ok (.goto 4, 3) := by decide +kernel
theorem dX3_shift_95 : decode cX3_shift 95 = .ok (.iconst 0, 1) := by decide +kernel
theorem dX3_shift_96 : decode cX3_shift 96 = .ok (.istore_n 2, 1) := by decide +kernel
theorem dX3_shift_97 : decode cX3_shift 97 = .ok (.iinc 3 1, 3) := by decide +kernel
theorem dX3_shift_100 : decode cX3_shift 100 = .ok (.goto (-96), 3) := by decide +kernel
theorem dX3_shift_103 : decode cX3_shift 103 = .ok (.iload_n 2, 1) := by decide +kernel
theorem dX3_shift_104 : decode cX3_shift 104 = .ok (.ireturn, 1) := by decide +kernel
theorem dX4_init_0 : decode cX4_init 0 = .ok (.aload_n 0, 1) := by decide +kernel
theorem dX4_init_1 : decode cX4_init 1 = .ok (.invokespecial 3, 3) := by decide +kernel
theorem dX4_init_4 : decode cX4_init 4 = .ok (.aload_n 0, 1) := by decide +kernel
theorem dX4_init_5 : decode cX4_init 5 = .ok (.getstatic 9, 3) := by decide +kernel
theorem dX4_init_8 : decode cX4_init 8 = .ok (.putfield 15, 3) := by decide +kernel
theorem dX4_init_11 : decode cX4_init 11 = .ok (.aload_n 0, 1) := by decide +kernel
theorem dX4_init_12 : decode cX4_init 12 = .ok (.iconst (-1), 1) := by decide +kernel
theorem dX4_init_13 : decode cX4_init 13 = .ok (.putfield 20, 3) := by decide +kernel
theorem dX4_init_16 : decode cX4_init 16 = .ok (.aload_n 0, 1) := by decide +kernel
theorem dX4_init_17 : decode cX4_init 17 = .ok (.iconst 0, 1) := by decide +kernel
theorem dX4_init_18 : decode cX4_init 18 = .ok (.putfield 24, 3) := by decide +kernel
theorem dX4_init_21 : decode cX4_init 21 = .ok (.aload_n 0, 1) := by decide +kernel
theorem dX4_init_22 : decode cX4_init 22 = .ok (.iconst 0, 1) := by decide +kernel
theorem dX4_init_23 : decode cX4_init 23 = .ok (.putfield 27, 3) := by decide +kernel
theorem dX4_init_26 : decode cX4_init 26 = .ok (.aload_n 0, 1) := by decide +kernel
theorem dX4_init_27 : decode cX4_init 27 = .ok (.iconst 0, 1) := by decide +kernel
theorem dX4_init_28 : decode cX4_init 28 = .ok (.putfield 30, 3) := by decide +kernel
theorem dX4_init_31 : decode cX4_init 31 = .ok (.return_, 1) := by decide +kernel
theorem dX5_init_0 : decode cX5_init 0 = .ok (.aload_n 0, 1) := by decide +kernel
theorem dX5_init_1 : decode cX5_init 1 = .ok (.invokespecial 3, 3) := by decide +kernel
theorem dX5_init_4 : decode cX5_init 4 = .ok (.aload_n 0, 1) := by decide +kernel
theorem dX5_init_5 : decode cX5_init 5 = .ok (.bipush 16, 2) := by decide +kernel
theorem dX5_init_7 : decode cX5_init 7 = .ok (.anewarray 9, 3) := by decide +kernel
theorem dX5_init_10 : decode cX5_init 10 = .ok (.putfield 11, 3) := by decide +kernel
theorem dX5_init_13 : decode cX5_init 13 = .ok (.aload_n 0, 1) := by decide +kernel
theorem dX5_init_14 : decode cX5_init 14 = .ok (.new 9, 3) := by decide +kernel
theorem dX5_init_17 : decode cX5_init 17 = .ok (.dup, 1) := by decide +kernel
theorem dX5_init_18 : decode cX5_init 18 = .ok (.invokespecial 17, 3) := by decide +kernel
theorem dX5_init_21 : decode cX5_init 21 = .ok (.putfield 18, 3) := by decide +kernel
theorem dX5_init_24 : decode cX5_init 24 = .ok (.aload_n 0, 1) := by decide +kernel
theorem dX5_init_25 : decode cX5_init 25 = .ok (.sipush 400, 3) := by decide +kernel
theorem dX5_init_28 : decode cX5_init 28 = .ok (.anewarray 22, 3) := by decide +kernel
theorem dX5_init_31 : decode cX5_init 31 = .ok (.putfield 24, 3) := by decide +kernel
theorem dX5_init_34 : decode cX5_init 34 = .ok (.aload_n 0, 1) := by decide +kernel
theorem dX5_init_35 : decode cX5_init 35 = .ok (.sipush 400, 3) := by decide +kernel
theorem dX5_init_38 : decode cX5_init 38 = .ok (.newarray .int, 2) := by decide +kernel
theorem dX5_init_40 : decode cX5_init 40 = .ok (.putfield 28, 3) := by decide +kernel
theorem dX5_init_43 : decode cX5_init 43 = .ok (.aload_n 0, 1) := by decide +kernel
theorem dX5_init_44 : decode cX5_init 44 = .ok (.iconst 0, 1) := by decide +kernel
theorem dX5_init_45 : decode cX5_init 45 = .ok (.putfield 32, 3) := by decide +kernel
theorem dX5_init_48 : decode cX5_init 48 = .ok (.aload_n 0, 1) := by decide +kernel
theorem dX5_init_49 : decode cX5_init 49 = .ok (.iconst 0, 1) := by decide +kernel
theorem dX5_init_50 : decode cX5_init 50 = .ok (.putfield 36, 3) := by decide +kernel
theorem dX5_init_53 : decode cX5_init 53 = .ok (.aload_n 0, 1) := by decide +kernel
theorem dX5_init_54 : decode cX5_init 54 = .ok (.iconst 4, 1) := by decide +kernel
theorem dX5_init_55 : decode cX5_init 55 = .ok (.putfield 39, 3) := by decide +kernel
theorem dX5_init_58 : decode cX5_init 58 = .ok (.aload_n 0, 1) := by decide +kernel
theorem dX5_init_59 : decode cX5_init 59 = .ok (.bipush 6, 2) := by decide +kernel
theorem dX5_init_61 : decode cX5_init 61 = .ok (.putfield 42, 3) := by decide +kernel
theorem dX5_init_64 : decode cX5_init 64 = .ok (.iconst 0, 1) := by decide +kernel
theorem dX5_init_65 : decode cX5_init 65 = .ok (.istore_n 1, 1) := by decide +kernel
theorem dX5_init_66 : decode cX5_init 66 = .ok (.iload_n 1, 1) := by decide +kernel
theorem dX5_init_67 : decode cX5_init 67 = .ok (.aload_n 0, 1) := by decide +kernel
theorem dX5_init_68 : decode cX5_init 68 = .ok (.getfield 11, 3) := by decide +kernel
theorem dX5_init_71 : decode cX5_init 71 = .ok (.arraylength, 1) := by decide +kernel
theorem dX5_init_72 : decode cX5_init 72 = .ok (.if_icmp .ge 22, 3) := by decide +kernel
theorem dX5_init_75 : decode cX5_init 75 = .ok (.aload_n 0, 1) := by decide +kernel
theorem dX5_init_76 : decode cX5_init 76 = .ok (.getfield 11, 3) := by decide +kernel
theorem dX5_init_79 : decode cX5_init 79 = .ok (.iload_n 1, 1) := by decide +kernel
theorem dX5_init_80 : decode cX5_init 80 = .ok (.new 9, 3) := by decide +kernel
theorem dX5_init_83 : decode cX5_init 83 = .ok (.dup, 1) := by decide +kernel
theorem dX5_init_84 : decode cX5_init 84 = .ok (.invokespecial 17, 3) := by decide +kernel
theorem dX5_init_87 : decode cX5_init 87 = .ok (.aastore, 1) := by decide +kernel
theorem dX5_init_88 : decode cX5_init 88 = .ok (.iinc 1 1, 3) := by decide +kernel
theorem dX5_init_91 : decode cX5_init 91 = .ok (.goto (-25), 3) := by decide +kernel
theorem dX5_init_94 : decode cX5_init 94 = .ok (.iconst 0, 1) := by decide +kernel
theorem dX5_init_95 : decode cX5_init 95 = .ok (.istore_n 1, 1) := by decide +kernel
theorem dX5_init_96 : decode cX5_init 96 = .ok (.iload_n 1, 1) := by decide +kernel
theorem dX5_init_97 : decode cX5_init 97 = .ok (.aload_n 0, 1) := by decide +kernel
theorem dX5_init_98 : decode cX5_init 98 = .ok (.getfield 24, 3) := by decide +kernel
theorem dX5_init_101 : decode cX5_init 101 = .ok (.arraylength, 1) := by decide +kernel
theorem dX5_init_102 : decode cX5_init 102 = .ok (.if_icmp .ge 18, 3) := by decide +kernel
theorem dX5_init_105 : decode cX5_init 105 = .ok (.aload_n 0, 1) := by decide +kernel
theorem dX5_init_106 : decode cX5_init 106 = .ok (.getfield 24, 3) := by decide +kernel
theorem dX5_init_109 : decode cX5_init 109 = .ok (.iload_n 1, 1) := by decide +kernel
theorem dX5_init_110 : decode cX5_init 110 = .ok (.getstatic 45, 3) := by decide +kernel
theorem dX5_init_113 : decode cX5_init 113 = .ok (.aastore, 1) := by decide +kernel
theorem dX5_init_114 : decode cX5_init 114 = .ok (.iinc 1 1, 3) := by decide +kernel
theorem dX5_init_117 : decode cX5_init 117 = .ok (.goto (-21), 3) := by decide +kernel
theorem dX5_init_120 : decode cX5_init 120 = .ok (.return_, 1) := by decide +kernel
theorem dX5_rule_0 : decode cX5_rule 0 = .ok (.iload_n 1, 1) := by decide +kernel
theorem dX5_rule_1 : decode cX5_rule 1 = .ok (.ifCond .lt 21, 3) := by decide +kernel
theorem dX5_rule_4 : decode cX5_rule 4 = .ok (.iload_n 1, 1) := by decide +kernel
theorem dX5_rule_5 : decode cX5_rule 5 = .ok (.aload_n 0, 1) := by decide +kernel
theorem dX5_rule_6 : decode cX5_rule 6 = .ok (.getfield 11, 3) := by decide +kernel
theorem dX5_rule_9 : decode cX5_rule 9 = .ok (.arraylength, 1) := by decide +kernel
theorem dX5_rule_10 : decode cX5_rule 10 = .ok (.if_icmp .ge 12, 3) := by decide +kernel
theorem dX5_rule_13 : decode cX5_rule 13 = .ok (.aload_n 0, 1) := by decide +kernel
theorem dX5_rule_14 : decode cX5_rule 14 = .ok (.getfield 11, 3) := by decide +kernel
theorem dX5_rule_17 : decode cX5_rule 17 = .ok (.iload_n 1, 1) := by decide +kernel
theorem dX5_rule_18 : decode cX5_rule 18 = .ok (.aaload, 1) := by decide +kernel
theorem dX5_rule_19 : decode cX5_rule 19 = .ok (.goto 7, 3) := by decide +kernel
theorem dX5_rule_22 : decode cX5_rule 22 = .ok (.aload_n 0, 1) := by decide +kernel
theorem dX5_rule_23 : decode cX5_rule 23 = .ok (.getfield 18, 3) := by decide +kernel
theorem dX5_rule_26 : decode cX5_rule 26 = .ok (.areturn, 1) := by decide +kernel
theorem dX5_sign_0 : decode cX5_sign 0 = .ok (.iload_n 1, 1) := by decide +kernel
theorem dX5_sign_1 : decode cX5_sign 1 = .ok (.ifCond .lt 21, 3) := by decide +kernel
theorem dX5_sign_4 : decode cX5_sign 4 = .ok (.iload_n 1, 1) := by decide +kernel
theorem dX5_sign_5 : decode cX5_sign 5 = .ok (.aload_n 0, 1) := by decide +kernel
theorem dX5_sign_6 : decode cX5_sign 6 = .ok (.getfield 24, 3) := by decide +kernel
theorem dX5_sign_9 : decode cX5_sign 9 = .ok (.arraylength, 1) := by decide +kernel
theorem dX5_sign_10 : decode cX5_sign 10 = .ok (.if_icmp .ge 12, 3) := by decide +kernel
theorem dX5_sign_13 : decode cX5_sign 13 = .ok (.aload_n 0, 1) := by decide +kernel
theorem dX5_sign_14 : decode cX5_sign 14 = .ok (.getfield 24, 3) := by decide +kernel
theorem dX5_sign_17 : decode cX5_sign 17 = .ok (.iload_n 1, 1) := by decide +kernel
theorem dX5_sign_18 : decode cX5_sign 18 = .ok (.aaload, 1) := by decide +kernel
theorem dX5_sign_19 : decode cX5_sign 19 = .ok (.goto 6, 3) := by decide +kernel
theorem dX5_sign_22 : decode cX5_sign 22 = .ok (.getstatic 45, 3) := by decide +kernel
theorem dX5_sign_25 : decode cX5_sign 25 = .ok (.areturn, 1) := by decide +kernel
theorem dX5_value_0 : decode cX5_value 0 = .ok (.iload_n 1, 1) := by decide +kernel
theorem dX5_value_1 : decode cX5_value 1 = .ok (.ifCond .lt 21, 3) := by decide +kernel
theorem dX5_value_4 : decode cX5_value 4 = .ok (.iload_n 1, 1) := by decide +kernel
theorem dX5_value_5 : decode cX5_value 5 = .ok (.aload_n 0, 1) := by decide +kernel
theorem dX5_value_6 : decode cX5_value 6 = .ok (.getfield 28, 3) := by decide +kernel
theorem dX5_value_9 : decode cX5_value 9 = .ok (.arraylength, 1) := by decide +kernel
theorem dX5_value_10 : decode cX5_value 10 = .ok (.if_icmp .ge 12, 3) := by decide +kernel
theorem dX5_value_13 : decode cX5_value 13 = .ok (.aload_n 0, 1) := by decide +kernel
theorem dX5_value_14 : decode cX5_value 14 = .ok (.getfield 28, 3) := by decide +kernel
theorem dX5_value_17 : decode cX5_value 17 = .ok (.iload_n 1, 1) := by decide +kernel
theorem dX5_value_18 : decode cX5_value 18 = .ok (.iaload, 1) := by decide +kernel
theorem dX5_value_19 : decode cX5_value 19 = .ok (.goto 4, 3) := by decide +kernel
theorem dX5_value_22 : decode cX5_value 22 = .ok (.iconst 0, 1) := by decide +kernel
theorem dX5_value_23 : decode cX5_value 23 = .ok (.ireturn, 1) := by decide +kernel
theorem dX5_clear_0 : decode cX5_clear 0 = .ok (.aload_n 0, 1) := by decide +kernel
theorem dX5_clear_1 : decode cX5_clear 1 = .ok (.iconst 0, 1) := by decide +kernel
theorem dX5_clear_2 : decode cX5_clear 2 = .ok (.putfield 32, 3) := by decide +kernel
theorem dX5_clear_5 : decode cX5_clear 5 = .ok (.aload_n 0, 1) := by decide +kernel
theorem dX5_clear_6 : decode cX5_clear 6 = .ok (.iconst 0, 1) := by decide +kernel
theorem dX5_clear_7 : decode cX5_clear 7 = .ok (.putfield 36, 3) := by decide +kernel
theorem dX5_clear_10 : decode cX5_clear 10 = .ok (.aload_n 0, 1) := by decide +kernel
theorem dX5_clear_11 : decode cX5_clear 11 = .ok (.iconst 4, 1) := by decide +kernel
theorem dX5_clear_12 : decode cX5_clear 12 = .ok (.putfield 39, 3) := by decide +kernel
theorem dX5_clear_15 : decode cX5_clear 15 = .ok (.aload_n 0, 1) := by decide +kernel
theorem dX5_clear_16 : decode cX5_clear 16 = .ok (.bipush 6, 2) := by decide +kernel
theorem dX5_clear_18 : decode cX5_clear 18 = .ok (.putfield 42, 3) := by decide +kernel
theorem dX5_clear_21 : decode cX5_clear 21 = .ok (.return_, 1) := by decide +kernel
theorem dX5_addSign_0 : decode cX5_addSign 0 = .ok (.aload_n 0, 1) := by decide +kernel
theorem dX5_addSign_1 : decode cX5_addSign 1 = .ok (.getfield 36, 3) := by decide +kernel
theorem dX5_addSign_4 : decode cX5_addSign 4 = .ok (.ifCond .lt 57, 3) := by decide +kernel
theorem dX5_addSign_7 : decode cX5_addSign 7 = .ok (.aload_n 0, 1) := by decide +kernel
theorem dX5_addSign_8 : decode cX5_addSign 8 = .ok (.getfield 36, 3) := by decide +kernel
theorem dX5_addSign_11 : decode cX5_addSign 11 = .ok (.aload_n 0, 1) := by decide +kernel
theorem dX5_addSign_12 : decode cX5_addSign 12 = .ok (.getfield 24, 3) := by decide +kernel
theorem dX5_addSign_15 : decode cX5_addSign 15 = .ok (.arraylength, 1) := by decide +kernel
theorem dX5_addSign_16 : decode cX5_addSign 16 = .ok (.if_icmp .ge 45, 3) := by decide +kernel
theorem dX5_addSign_19 : decode cX5_addSign 19 = .ok (.aload_n 0, 1) := by decide +kernel
theorem dX5_addSign_20 : decode cX5_addSign 20 = .ok (.getfield 36, 3) := by decide +kernel
theorem dX5_addSign_23 : decode cX5_addSign 23 = .ok (.aload_n 0, 1) := by decide +kernel
theorem dX5_addSign_24 : decode cX5_addSign 24 = .ok (.getfield 28, 3) := by decide +kernel
theorem dX5_addSign_27 : decode cX5_addSign 27 = .ok (.arraylength, 1) := by decide +kernel
theorem dX5_addSign_28 : decode cX5_addSign 28 = .ok (.if_icmp .ge 33, 3) := by decide +kernel
theorem dX5_addSign_31 : decode cX5_addSign 31 = .ok (.aload_n 0, 1) := by decide +kernel
theorem dX5_addSign_32 : decode cX5_addSign 32 = .ok (.getfield 24, 3) := by decide +kernel
theorem dX5_addSign_35 : decode cX5_addSign 35 = .ok (.aload_n 0, 1) := by decide +kernel
theorem dX5_addSign_36 : decode cX5_addSign 36 = .ok (.getfield 36, 3) := by decide +kernel
theorem dX5_addSign_39 : decode cX5_addSign 39 = .ok (.aload_n 1, 1) := by decide +kernel
theorem dX5_addSign_40 : decode cX5_addSign 40 = .ok (.aastore, 1) := by decide +kernel
theorem dX5_addSign_41 : decode cX5_addSign 41 = .ok (.aload_n 0, 1) := by decide +kernel
theorem dX5_addSign_42 : decode cX5_addSign 42 = .ok (.getfield 28, 3) := by decide +kernel
theorem dX5_addSign_45 : decode cX5_addSign 45 = .ok (.aload_n 0, 1) := by decide +kernel
theorem dX5_addSign_46 : decode cX5_addSign 46 = .ok (.getfield 36, 3) := by decide +kernel
theorem dX5_addSign_49 : decode cX5_addSign 49 = .ok (.iload_n 2, 1) := by decide +kernel
theorem dX5_addSign_50 : decode cX5_addSign 50 = .ok (.iastore, 1) := by decide +kernel
theorem dX5_addSign_51 : decode cX5_addSign 51 = .ok (.aload_n 0, 1) := by decide +kernel
theorem dX5_addSign_52 : decode cX5_addSign 52 = .ok (.dup, 1) := by decide +kernel
theorem dX5_addSign_53 : decode cX5_addSign 53 = .ok (.getfield 36, 3) := by decide +kernel
theorem dX5_addSign_56 : decode cX5_addSign 56 = .ok (.iconst 1, 1) := by decide +kernel
theorem dX5_addSign_57 : decode cX5_addSign 57 = .ok (.iadd, 1) := by decide +kernel
theorem dX5_addSign_58 : decode cX5_addSign 58 = .ok (.putfield 36, 3) := by decide +kernel
theorem dX5_addSign_61 : decode cX5_addSign 61 = .ok (.return_, 1) := by decide +kernel
theorem dX5_addRule_0 : decode cX5_addRule 0 = .ok (.aload_n 0, 1) := by decide +kernel
theorem dX5_addRule_1 : decode cX5_addRule 1 = .ok (.getfield 32, 3) := by decide +kernel
theorem dX5_addRule_4 : decode cX5_addRule 4 = .ok (.bipush 16, 2) := by decide +kernel
theorem dX5_addRule_6 : decode cX5_addRule 6 = .ok (.if_icmp .ge 57, 3) := by decide +kernel
theorem dX5_addRule_9 : decode cX5_addRule 9 = .ok (.aload_n 0, 1) := by decide +kernel
theorem dX5_addRule_10 : decode cX5_addRule 10 = .ok (.aload_n 0, 1) := by decide +kernel
theorem dX5_addRule_11 : decode cX5_addRule 11 = .ok (.getfield 32, 3) := by decide +kernel
theorem dX5_addRule_14 : decode cX5_addRule 14 = .ok (.invokevirtual 49, 3) := by decide +kernel
theorem dX5_addRule_17 : decode cX5_addRule 17 = .ok (.astore 5, 2) := by decide +kernel
theorem dX5_addRule_19 : decode cX5_addRule 19 = .ok (.aload 5, 2) := by decide +kernel
theorem dX5_addRule_21 : decode cX5_addRule 21 = .ok (.aload_n 1, 1) := by decide +kernel
theorem dX5_addRule_22 : decode cX5_addRule 22 = .ok (.putfield 53, 3) := by decide +kernel
theorem dX5_addRule_25 : decode cX5_addRule 25 = .ok (.aload 5, 2) := by decide +kernel
theorem dX5_addRule_27 : decode cX5_addRule 27 = .ok (.iload_n 2, 1) := by decide +kernel
theorem dX5_addRule_28 : decode cX5_addRule 28 = .ok (.putfield 56, 3) := by decide +kernel
theorem dX5_addRule_31 : decode cX5_addRule 31 = .ok (.aload 5, 2) := by decide +kernel
theorem dX5_addRule_33 : decode cX5_addRule 33 = .ok (.iload_n 3, 1) := by decide +kernel
theorem dX5_addRule_34 : decode cX5_addRule 34 = .ok (.putfield 59, 3) := by decide +kernel
theorem dX5_addRule_37 : decode cX5_addRule 37 = .ok (.aload 5, 2) := by decide +kernel
theorem dX5_addRule_39 : decode cX5_addRule 39 = .ok (.iload 4, 2) := by decide +kernel
theorem dX5_addRule_41 : decode cX5_addRule 41 = .ok (.putfield 62, 3) := by decide +kernel
theorem dX5_addRule_44 : decode cX5_addRule 44 = .ok (.aload 5, 2) := by decide +kernel
theorem dX5_addRule_46 : decode cX5_addRule 46 = .ok (.aload_n 0, 1) := by decide +kernel
theorem dX5_addRule_47 : decode cX5_addRule 47 = .ok (.getfield 36, 3) := by decide +kernel
theorem dX5_addRule_50 : decode cX5_addRule 50 = .ok (.putfield 65, 3) := by decide +kernel
theorem dX5_addRule_53 : decode cX5_addRule 53 = .ok (.aload_n 0, 1) := by decide +kernel
theorem dX5_addRule_54 : decode cX5_addRule 54 = .ok (.dup, 1) := by decide +kernel
theorem dX5_addRule_55 : decode cX5_addRule 55 = .ok (.getfield 32, 3) := by decide +kernel
theorem dX5_addRule_58 : decode cX5_addRule 58 = .ok (.iconst 1, 1) := by decide +kernel
theorem dX5_addRule_59 : decode cX5_addRule 59 = .ok (.iadd, 1) := by decide +kernel
theorem dX5_addRule_60 : decode cX5_addRule 60 = .ok (.putfield 32, 3) := by decide +kernel
theorem dX5_addRule_63 : decode cX5_addRule 63 = .ok (.return_, 1) := by decide +kernel
theorem dX7_init_0 : decode cX7_init 0 = .ok (.aload_n 0, 1) := by decide +kernel
theorem dX7_init_1 : decode cX7_init 1 = .ok (.invokespecial 3, 3) := by decide +kernel
theorem dX7_init_4 : decode cX7_init 4 = .ok (.aload_n 0, 1) := by decide +kernel
theorem dX7_init_5 : decode cX7_init 5 = .ok (.sipush 2000, 3) := by decide +kernel
theorem dX7_init_8 : decode cX7_init 8 = .ok (.newarray .char, 2) := by decide +kernel
theorem dX7_init_10 : decode cX7_init 10 = .ok (.putfield 9, 3) := by decide +kernel
theorem dX7_init_13 : decode cX7_init 13 = .ok (.aload_n 0, 1) := by decide +kernel
theorem dX7_init_14 : decode cX7_init 14 = .ok (.iconst 0, 1) := by decide +kernel
theorem dX7_init_15 : decode cX7_init 15 = .ok (.putfield 15, 3) := by decide +kernel
theorem dX7_init_18 : decode cX7_init 18 = .ok (.return_, 1) := by decide +kernel
theorem dX7_append_0 : decode cX7_append 0 = .ok (.bipush 24, 2) := by decide +kernel
theorem dX7_append_2 : decode cX7_append 2 = .ok (.istore_n 2, 1) := by decide +kernel
theorem dX7_append_3 : decode cX7_append 3 = .ok (.iload_n 2, 1) := by decide +kernel
theorem dX7_append_4 : decode cX7_append 4 = .ok (.ifCond .lt 55, 3) := by decide +kernel
theorem dX7_append_7 : decode cX7_append 7 = .ok (.aload_n 0, 1) := by decide +kernel
theorem dX7_append_8 : decode cX7_append 8 = .ok (.getfield 15, 3) := by decide +kernel
theorem dX7_append_11 : decode cX7_append 11 = .ok (.ifCond .lt 42, 3) := by decide +kernel
theorem dX7_append_14 : decode cX7_append 14 = .ok (.aload_n 0, 1) := by decide +kernel
theorem dX7_append_15 : decode cX7_append 15 = .ok (.getfield 15, 3) := by decide +kernel
theorem dX7_append_18 : decode cX7_append 18 = .ok (.aload_n 0, 1) := by decide +kernel
theorem dX7_append_19 : decode cX7_append 19 = .ok (.getfield 9, 3) := by decide +kernel
theorem dX7_append_22 : decode cX7_append 22 = .ok (.arraylength, 1) := by decide +kernel
theorem dX7_append_23 : decode cX7_append 23 = .ok (.if_icmp .ge 30, 3) := by decide +kernel
theorem dX7_append_26 : decode cX7_append 26 = .ok (.aload_n 0, 1) := by decide +kernel
theorem dX7_append_27 : decode cX7_append 27 = .ok (.getfield 9, 3) := by decide +kernel
theorem dX7_append_30 : decode cX7_append 30 = .ok (.aload_n 0, 1) := by decide +kernel
theorem dX7_append_31 : decode cX7_append 31 = .ok (.getfield 15, 3) := by decide +kernel
theorem dX7_append_34 : decode cX7_append 34 = .ok (.iload_n 1, 1) := by decide +kernel
theorem dX7_append_35 : decode cX7_append 35 = .ok (.iload_n 2, 1) := by decide +kernel
theorem dX7_append_36 : decode cX7_append 36 = .ok (.iushr, 1) := by decide +kernel
theorem dX7_append_37 : decode cX7_append 37 = .ok (.sipush 255, 3) := by decide +kernel
theorem dX7_append_40 : decode cX7_append 40 = .ok (.iand, 1) := by decide +kernel
theorem dX7_append_41 : decode cX7_append 41 = .ok (.i2c, 1) := by decide +kernel
theorem dX7_append_42 : decode cX7_append 42 = .ok (.castore, 1) := by decide +kernel
theorem dX7_append_43 : decode cX7_append 43 = .ok (.aload_n 0, 1) := by decide +kernel
theorem dX7_append_44 : decode cX7_append 44 = .ok (.dup, 1) := by decide +kernel
theorem dX7_append_45 : decode cX7_append 45 = .ok (.getfield 15, 3) := by decide +kernel
theorem dX7_append_48 : decode cX7_append 48 = .ok (.iconst 1, 1) := by decide +kernel
theorem dX7_append_49 : decode cX7_append 49 = .ok (.iadd, 1) := by decide +kernel
theorem dX7_append_50 : decode cX7_append 50 = .ok (.putfield 15, 3) := by decide +kernel
theorem dX7_append_53 : decode cX7_append 53 = .ok (.iinc 2 (-8), 3) := by decide +kernel
theorem dX7_append_56 : decode cX7_append 56 = .ok (.goto (-53), 3) := by decide +kernel
theorem dX7_append_59 : decode cX7_append 59 = .ok (.return_, 1) := by decide +kernel
theorem dX7_byteAt_0 : decode cX7_byteAt 0 = .ok (.iload_n 1, 1) := by decide +kernel
theorem dX7_byteAt_1 : decode cX7_byteAt 1 = .ok (.ifCond .lt 29, 3) := by decide +kernel
theorem dX7_byteAt_4 : decode cX7_byteAt 4 = .ok (.iload_n 1, 1) := by decide +kernel
theorem dX7_byteAt_5 : decode cX7_byteAt 5 = .ok (.aload_n 0, 1) := by decide +kernel
theorem dX7_byteAt_6 : decode cX7_byteAt 6 = .ok (.getfield 15, 3) := by decide +kernel
theorem dX7_byteAt_9 : decode cX7_byteAt 9 = .ok (.if_icmp .ge 21, 3) := by decide +kernel
theorem dX7_byteAt_12 : decode cX7_byteAt 12 = .ok (.iload_n 1, 1) := by decide +kernel
theorem dX7_byteAt_13 : decode cX7_byteAt 13 = .ok (.aload_n 0, 1) := by decide +kernel
theorem dX7_byteAt_14 : decode cX7_byteAt 14 = .ok (.getfield 9, 3) := by decide +kernel
theorem dX7_byteAt_17 : decode cX7_byteAt 17 = .ok (.arraylength, 1) := by decide +kernel
theorem dX7_byteAt_18 : decode cX7_byteAt 18 = .ok (.if_icmp .ge 12, 3) := by decide +kernel
theorem dX7_byteAt_21 : decode cX7_byteAt 21 = .ok (.aload_n 0, 1) := by decide +kernel
theorem dX7_byteAt_22 : decode cX7_byteAt 22 = .ok (.getfield 9, 3) := by decide +kernel
theorem dX7_byteAt_25 : decode cX7_byteAt 25 = .ok (.iload_n 1, 1) := by decide +kernel
theorem dX7_byteAt_26 : decode cX7_byteAt 26 = .ok (.caload, 1) := by decide +kernel
theorem dX7_byteAt_27 : decode cX7_byteAt 27 = .ok (.goto 4, 3) := by decide +kernel
theorem dX7_byteAt_30 : decode cX7_byteAt 30 = .ok (.iconst (-1), 1) := by decide +kernel
theorem dX7_byteAt_31 : decode cX7_byteAt 31 = .ok (.ireturn, 1) := by decide +kernel
theorem dX7_isLetter_0 : decode cX7_isLetter 0 = .ok (.aload_n 0, 1) := by decide +kernel
theorem dX7_isLetter_1 : decode cX7_isLetter 1 = .ok (.iload_n 1, 1) := by decide +kernel
theorem dX7_isLetter_2 : decode cX7_isLetter 2 = .ok (.invokevirtual 19, 3) := by decide +kernel
theorem dX7_isLetter_5 : decode cX7_isLetter 5 = .ok (.istore_n 2, 1) := by decide +kernel
theorem dX7_isLetter_6 : decode cX7_isLetter 6 = .ok (.iload_n 2, 1) := by decide +kernel
theorem dX7_isLetter_7 : decode cX7_isLetter 7 = .ok (.bipush 97, 2) := by decide +kernel
theorem dX7_isLetter_9 : decode cX7_isLetter 9 = .ok (.if_icmp .lt 13, 3) := by decide +kernel
theorem dX7_isLetter_12 : decode cX7_isLetter 12 = .ok (.iload_n 2, 1) := by decide +kernel
theorem dX7_isLetter_13 : decode cX7_isLetter 13 = .ok (.bipush 122, 2) := by decide +kernel
theorem dX7_isLetter_15 : decode cX7_isLetter 15 = .ok (.if_icmp .gt 7, 3) := by decide +kernel
theorem dX7_isLetter_18 : decode cX7_isLetter 18 = .ok (.iconst 1, 1) := by decide +kernel
theorem dX7_isLetter_19 : decode cX7_isLetter 19 = .ok (.goto 4, 3) := by decide +kernel
theorem dX7_isLetter_22 : decode cX7_isLetter 22 = .ok (.iconst 0, 1) := by decide +kernel
theorem dX7_isLetter_23 : decode cX7_isLetter 23 = .ok (.ireturn, 1) := by decide +kernel
theorem dX7_isDigit_0 : decode cX7_isDigit 0 = .ok (.aload_n 0, 1) := by decide +kernel
theorem dX7_isDigit_1 : decode cX7_isDigit 1 = .ok (.iload_n 1, 1) := by decide +kernel
theorem dX7_isDigit_2 : decode cX7_isDigit 2 = .ok (.invokevirtual 19, 3) := by decide +kernel
theorem dX7_isDigit_5 : decode cX7_isDigit 5 = .ok (.istore_n 2, 1) := by decide +kernel
theorem dX7_isDigit_6 : decode cX7_isDigit 6 = .ok (.iload_n 2, 1) := by decide +kernel
theorem dX7_isDigit_7 : decode cX7_isDigit 7 = .ok (.bipush 48, 2) := by decide +kernel
theorem dX7_isDigit_9 : decode cX7_isDigit 9 = .ok (.if_icmp .lt 13, 3) := by decide +kernel
theorem dX7_isDigit_12 : decode cX7_isDigit 12 = .ok (.iload_n 2, 1) := by decide +kernel
theorem dX7_isDigit_13 : decode cX7_isDigit 13 = .ok (.bipush 57, 2) := by decide +kernel
theorem dX7_isDigit_15 : decode cX7_isDigit 15 = .ok (.if_icmp .gt 7, 3) := by decide +kernel
theorem dX7_isDigit_18 : decode cX7_isDigit 18 = .ok (.iconst 1, 1) := by decide +kernel
theorem dX7_isDigit_19 : decode cX7_isDigit 19 = .ok (.goto 4, 3) := by decide +kernel
theorem dX7_isDigit_22 : decode cX7_isDigit 22 = .ok (.iconst 0, 1) := by decide +kernel
theorem dX7_isDigit_23 : decode cX7_isDigit 23 = .ok (.ireturn, 1) := by decide +kernel
theorem dX7_behindBlanks_0 : decode cX7_behindBlanks 0 = .ok (.iload_n 1, 1) := by decide +kernel
theorem dX7_behindBlanks_1 : decode cX7_behindBlanks 1 = .ok (.istore_n 2, 1) := by decide +kernel
theorem dX7_behindBlanks_2 : decode cX7_behindBlanks 2 = .ok (.iload_n 2, 1) := by decide +kernel
theorem dX7_behindBlanks_3 : decode cX7_behindBlanks 3 = .ok (.aload_n 0, 1) := by decide +kernel
theorem dX7_behindBlanks_4 : decode cX7_behindBlanks 4 = .ok (.getfield 15, 3) := by decide +kernel
theorem dX7_behindBlanks_7 : decode cX7_behindBlanks 7 = .ok (.if_icmp .ge 29, 3) := by decide +kernel
theorem dX7_behindBlanks_10 : decode cX7_behindBlanks 10 = .ok (.aload_n 0, 1) := by decide +kernel
theorem dX7_behindBlanks_11 : decode cX7_behindBlanks 11 = .ok (.iload_n 2, 1) := by decide +kernel
theorem dX7_behindBlanks_12 : decode cX7_behindBlanks 12 = .ok (.invokevirtual 19, 3) := by decide +kernel
theorem dX7_behindBlanks_15 : decode cX7_behindBlanks 15 = .ok (.bipush 32, 2) := by decide +kernel
theorem dX7_behindBlanks_17 : decode cX7_behindBlanks 17 = .ok (.if_icmp .eq 13, 3) := by decide +kernel
theorem dX7_behindBlanks_20 : decode cX7_behindBlanks 20 = .ok (.aload_n 0, 1) := by decide +kernel
theorem dX7_behindBlanks_21 : decode cX7_behindBlanks 21 = .ok (.iload_n 2, 1) := by decide +kernel
theorem dX7_behindBlanks_22 : decode cX7_behindBlanks 22 = .ok (.invokevirtual 19, 3) := by decide +kernel
theorem dX7_behindBlanks_25 : decode cX7_behindBlanks 25 = .ok (.bipush 10, 2) := by decide +kernel
theorem dX7_behindBlanks_27 : decode cX7_behindBlanks 27 = .ok (.if_icmp .ne 9, 3) := by decide +kernel
theorem dX7_behindBlanks_30 : decode cX7_behindBlanks 30 = .ok (.iinc 2 1, 3) := by decide +kernel
theorem dX7_behindBlanks_33 : decode cX7_behindBlanks 33 = .ok (.goto (-31), 3) := by decide +kernel
theorem dX7_behindBlanks_36 : decode cX7_behindBlanks 36 = .ok (.iload_n 2, 1) := by decide +kernel
theorem dX7_behindBlanks_37 : decode cX7_behindBlanks 37 = .ok (.ireturn, 1) := by decide +kernel
theorem dX7_spells_0 : decode cX7_spells 0 = .ok (.iconst 0, 1) := by decide +kernel
theorem dX7_spells_1 : decode cX7_spells 1 = .ok (.istore_n 3, 1) := by decide +kernel
theorem dX7_spells_2 : decode cX7_spells 2 = .ok (.iload_n 3, 1) := by decide +kernel
theorem dX7_spells_3 : decode cX7_spells 3 = .ok (.aload_n 2, 1) := by decide +kernel
theorem dX7_spells_4 : decode cX7_spells 4 = .ok (.invokevirtual 23, 3) := by decide +kernel
theorem dX7_spells_7 : decode cX7_spells 7 = .ok (.if_icmp .ge 26, 3) := by decide +kernel
theorem dX7_spells_10 : decode cX7_spells 10 = .ok (.aload_n 0, 1) := by decide +kernel
theorem dX7_spells_11 : decode cX7_spells 11 = .ok (.iload_n 1, 1) := by decide +kernel
theorem dX7_spells_12 : decode cX7_spells 12 = .ok (.iload_n 3, 1) := by decide +kernel
theorem dX7_spells_13 : decode cX7_spells 13 = .ok (.iadd, 1) := by decide +kernel
theorem dX7_spells_14 : decode cX7_spells 14 = .ok (.invokevirtual 19, 3) := by decide +kernel
theorem dX7_spells_17 : decode cX7_spells 17 = .ok (.aload_n 2, 1) := by decide +kernel
theorem dX7_spells_18 : decode cX7_spells 18 = .ok (.iload_n 3, 1) := by decide +kernel
theorem dX7_spells_19 : decode cX7_spells 19 = .ok (.invokevirtual 28, 3) := by decide +kernel
theorem dX7_spells_22 : decode cX7_spells 22 = .ok (.if_icmp .eq 5, 3) := by decide +kernel
theorem dX7_spells_25 : decode cX7_spells 25 = .ok (.iconst 0, 1) := by decide +kernel
theorem dX7_spells_26 : decode cX7_spells 26 = .ok (.ireturn, 1) := by decide +kernel
theorem dX7_spells_27 : decode cX7_spells 27 = .ok (.iinc 3 1, 3) := by decide +kernel
theorem dX7_spells_30 : decode cX7_spells 30 = .ok (.goto (-28), 3) := by decide +kernel
theorem dX7_spells_33 : decode cX7_spells 33 = .ok (.iconst 1, 1) := by decide +kernel
theorem dX7_spells_34 : decode cX7_spells 34 = .ok (.ireturn, 1) := by decide +kernel
theorem dX7_alike_0 : decode cX7_alike 0 = .ok (.iconst 0, 1) := by decide +kernel
theorem dX7_alike_1 : decode cX7_alike 1 = .ok (.istore 4, 2) := by decide +kernel
theorem dX7_alike_3 : decode cX7_alike 3 = .ok (.iload 4, 2) := by decide +kernel
theorem dX7_alike_5 : decode cX7_alike 5 = .ok (.iload_n 3, 1) := by decide +kernel
theorem dX7_alike_6 : decode cX7_alike 6 = .ok (.if_icmp .ge 30, 3) := by decide +kernel
theorem dX7_alike_9 : decode cX7_alike 9 = .ok (.aload_n 0, 1) := by decide +kernel
theorem dX7_alike_10 : decode cX7_alike 10 = .ok (.iload_n 1, 1) := by decide +kernel
theorem dX7_alike_11 : decode cX7_alike 11 = .ok (.iload 4, 2) := by decide +kernel
theorem dX7_alike_13 : decode cX7_alike 13 = .ok (.iadd, 1) := by decide +kernel
theorem dX7_alike_14 : decode cX7_alike 14 = .ok (.invokevirtual 19, 3) := by decide +kernel
theorem dX7_alike_17 : decode cX7_alike 17 = .ok (.aload_n 0, 1) := by decide +kernel
theorem dX7_alike_18 : decode cX7_alike 18 = .ok (.iload_n 2, 1) := by decide +kernel
theorem dX7_alike_19 : decode cX7_alike 19 = .ok (.iload 4, 2) := by decide +kernel
theorem dX7_alike_21 : decode cX7_alike 21 = .ok (.iadd, 1) := by decide +kernel
theorem dX7_alike_22 : decode cX7_alike 22 = .ok (.invokevirtual 19, 3) := by decide +kernel
theorem dX7_alike_25 : decode cX7_alike 25 = .ok (.if_icmp .eq 5, 3) := by decide +kernel
theorem dX7_alike_28 : decode cX7_alike 28 = .ok (.iconst 0, 1) := by decide +kernel
theorem dX7_alike_29 : decode cX7_alike 29 = .ok (.ireturn, 1) := by decide +kernel
theorem dX7_alike_30 : decode cX7_alike 30 = .ok (.iinc 4 1, 3) := by decide +kernel
theorem dX7_alike_33 : decode cX7_alike 33 = .ok (.goto (-30), 3) := by decide +kernel
theorem dX7_alike_36 : decode cX7_alike 36 = .ok (.iconst 1, 1) := by decide +kernel
theorem dX7_alike_37 : decode cX7_alike 37 = .ok (.ireturn, 1) := by decide +kernel
theorem dX8_init_0 : decode cX8_init 0 = .ok (.aload_n 0, 1) := by decide +kernel
theorem dX8_init_1 : decode cX8_init 1 = .ok (.invokespecial 3, 3) := by decide +kernel
theorem dX8_init_4 : decode cX8_init 4 = .ok (.aload_n 0, 1) := by decide +kernel
theorem dX8_init_5 : decode cX8_init 5 = .ok (.sipush 401, 3) := by decide +kernel
theorem dX8_init_8 : decode cX8_init 8 = .ok (.anewarray 9, 3) := by decide +kernel
theorem dX8_init_11 : decode cX8_init 11 = .ok (.putfield 11, 3) := by decide +kernel
theorem dX8_init_14 : decode cX8_init 14 = .ok (.aload_n 0, 1) := by decide +kernel
theorem dX8_init_15 : decode cX8_init 15 = .ok (.sipush 401, 3) := by decide +kernel
theorem dX8_init_18 : decode cX8_init 18 = .ok (.newarray .int, 2) := by decide +kernel
theorem dX8_init_20 : decode cX8_init 20 = .ok (.putfield 17, 3) := by decide +kernel
theorem dX8_init_23 : decode cX8_init 23 = .ok (.aload_n 0, 1) := by decide +kernel
theorem dX8_init_24 : decode cX8_init 24 = .ok (.sipush 401, 3) := by decide +kernel
theorem dX8_init_27 : decode cX8_init 27 = .ok (.newarray .int, 2) := by decide +kernel
theorem dX8_init_29 : decode cX8_init 29 = .ok (.putfield 21, 3) := by decide +kernel
theorem dX8_init_32 : decode cX8_init 32 = .ok (.aload_n 0, 1) := by decide +kernel
theorem dX8_init_33 : decode cX8_init 33 = .ok (.sipush 401, 3) := by decide +kernel
theorem dX8_init_36 : decode cX8_init 36 = .ok (.newarray .int, 2) := by decide +kernel
theorem dX8_init_38 : decode cX8_init 38 = .ok (.putfield 24, 3) := by decide +kernel
theorem dX8_init_41 : decode cX8_init 41 = .ok (.aload_n 0, 1) := by decide +kernel
theorem dX8_init_42 : decode cX8_init 42 = .ok (.iconst 0, 1) := by decide +kernel
theorem dX8_init_43 : decode cX8_init 43 = .ok (.putfield 27, 3) := by decide +kernel
theorem dX8_init_46 : decode cX8_init 46 = .ok (.aload_n 0, 1) := by decide +kernel
theorem dX8_init_47 : decode cX8_init 47 = .ok (.aload_n 1, 1) := by decide +kernel
theorem dX8_init_48 : decode cX8_init 48 = .ok (.putfield 31, 3) := by decide +kernel
theorem dX8_init_51 : decode cX8_init 51 = .ok (.iconst 0, 1) := by decide +kernel
theorem dX8_init_52 : decode cX8_init 52 = .ok (.istore_n 2, 1) := by decide +kernel
theorem dX8_init_53 : decode cX8_init 53 = .ok (.iload_n 2, 1) := by decide +kernel
theorem dX8_init_54 : decode cX8_init 54 = .ok (.aload_n 0, 1) := by decide +kernel
theorem dX8_init_55 : decode cX8_init 55 = .ok (.getfield 11, 3) := by decide +kernel
theorem dX8_init_58 : decode cX8_init 58 = .ok (.arraylength, 1) := by decide +kernel
theorem dX8_init_59 : decode cX8_init 59 = .ok (.if_icmp .ge 18, 3) := by decide +kernel
theorem dX8_init_62 : decode cX8_init 62 = .ok (.aload_n 0, 1) := by decide +kernel
theorem dX8_init_63 : decode cX8_init 63 = .ok (.getfield 11, 3) := by decide +kernel
theorem dX8_init_66 : decode cX8_init 66 = .ok (.iload_n 2, 1) := by decide +kernel
theorem dX8_init_67 : decode cX8_init 67 = .ok (.getstatic 35, 3) := by decide +kernel
theorem dX8_init_70 : decode cX8_init 70 = .ok (.aastore, 1) := by decide +kernel
theorem dX8_init_71 : decode cX8_init 71 = .ok (.iinc 2 1, 3) := by decide +kernel
theorem dX8_init_74 : decode cX8_init 74 = .ok (.goto (-21), 3) := by decide +kernel
theorem dX8_init_77 : decode cX8_init 77 = .ok (.return_, 1) := by decide +kernel
theorem dX8_sign_0 : decode cX8_sign 0 = .ok (.iload_n 1, 1) := by decide +kernel
theorem dX8_sign_1 : decode cX8_sign 1 = .ok (.ifCond .lt 21, 3) := by decide +kernel
theorem dX8_sign_4 : decode cX8_sign 4 = .ok (.iload_n 1, 1) := by decide +kernel
theorem dX8_sign_5 : decode cX8_sign 5 = .ok (.aload_n 0, 1) := by decide +kernel
theorem dX8_sign_6 : decode cX8_sign 6 = .ok (.getfield 11, 3) := by decide +kernel
theorem dX8_sign_9 : decode cX8_sign 9 = .ok (.arraylength, 1) := by decide +kernel
theorem dX8_sign_10 : decode cX8_sign 10 = .ok (.if_icmp .ge 12, 3) := by decide +kernel
theorem dX8_sign_13 : decode cX8_sign 13 = .ok (.aload_n 0, 1) := by decide +kernel
theorem dX8_sign_14 : decode cX8_sign 14 = .ok (.getfield 11, 3) := by decide +kernel
theorem dX8_sign_17 : decode cX8_sign 17 = .ok (.iload_n 1, 1) := by decide +kernel
theorem dX8_sign_18 : decode cX8_sign 18 = .ok (.aaload, 1) := by decide +kernel
theorem dX8_sign_19 : decode cX8_sign 19 = .ok (.goto 6, 3) := by decide +kernel
theorem dX8_sign_22 : decode cX8_sign 22 = .ok (.getstatic 39, 3) := by decide +kernel
theorem dX8_sign_25 : decode cX8_sign 25 = .ok (.areturn, 1) := by decide +kernel
theorem dX8_place_0 : decode cX8_place 0 = .ok (.iload_n 1, 1) := by decide +kernel
theorem dX8_place_1 : decode cX8_place 1 = .ok (.ifCond .lt 21, 3) := by decide +kernel
theorem dX8_place_4 : decode cX8_place 4 = .ok (.iload_n 1, 1) := by decide +kernel
theorem dX8_place_5 : decode cX8_place 5 = .ok (.aload_n 0, 1) := by decide +kernel
theorem dX8_place_6 : decode cX8_place 6 = .ok (.getfield 17, 3) := by decide +kernel
theorem dX8_place_9 : decode cX8_place 9 = .ok (.arraylength, 1) := by decide +kernel
theorem dX8_place_10 : decode cX8_place 10 = .ok (.if_icmp .ge 12, 3) := by decide +kernel
theorem dX8_place_13 : decode cX8_place 13 = .ok (.aload_n 0, 1) := by decide +kernel
theorem dX8_place_14 : decode cX8_place 14 = .ok (.getfield 17, 3) := by decide +kernel
theorem dX8_place_17 : decode cX8_place 17 = .ok (.iload_n 1, 1) := by decide +kernel
theorem dX8_place_18 : decode cX8_place 18 = .ok (.iaload, 1) := by decide +kernel
theorem dX8_place_19 : decode cX8_place 19 = .ok (.goto 4, 3) := by decide +kernel
theorem dX8_place_22 : decode cX8_place 22 = .ok (.iconst 0, 1) := by decide +kernel
theorem dX8_place_23 : decode cX8_place 23 = .ok (.ireturn, 1) := by decide +kernel
theorem dX8_size_0 : decode cX8_size 0 = .ok (.iload_n 1, 1) := by decide +kernel
theorem dX8_size_1 : decode cX8_size 1 = .ok (.ifCond .lt 21, 3) := by decide +kernel
theorem dX8_size_4 : decode cX8_size 4 = .ok (.iload_n 1, 1) := by decide +kernel
theorem dX8_size_5 : decode cX8_size 5 = .ok (.aload_n 0, 1) := by decide +kernel
theorem dX8_size_6 : decode cX8_size 6 = .ok (.getfield 21, 3) := by decide +kernel
theorem dX8_size_9 : decode cX8_size 9 = .ok (.arraylength, 1) := by decide +kernel
theorem dX8_size_10 : decode cX8_size 10 = .ok (.if_icmp .ge 12, 3) := by decide +kernel
theorem dX8_size_13 : decode cX8_size 13 = .ok (.aload_n 0, 1) := by decide +kernel
theorem dX8_size_14 : decode cX8_size 14 = .ok (.getfield 21, 3) := by decide +kernel
theorem dX8_size_17 : decode cX8_size 17 = .ok (.iload_n 1, 1) := by decide +kernel
theorem dX8_size_18 : decode cX8_size 18 = .ok (.iaload, 1) := by decide +kernel
theorem dX8_size_19 : decode cX8_size 19 = .ok (.goto 4, 3) := by decide +kernel
theorem dX8_size_22 : decode cX8_size 22 = .ok (.iconst 0, 1) := by decide +kernel
theorem dX8_size_23 : decode cX8_size 23 = .ok (.ireturn, 1) := by decide +kernel
theorem dX8_value_0 : decode cX8_value 0 = .ok (.iload_n 1, 1) := by decide +kernel
theorem dX8_value_1 : decode cX8_value 1 = .ok (.ifCond .lt 21, 3) := by decide +kernel
theorem dX8_value_4 : decode cX8_value 4 = .ok (.iload_n 1, 1) := by decide +kernel
theorem dX8_value_5 : decode cX8_value 5 = .ok (.aload_n 0, 1) := by decide +kernel
theorem dX8_value_6 : decode cX8_value 6 = .ok (.getfield 24, 3) := by decide +kernel
theorem dX8_value_9 : decode cX8_value 9 = .ok (.arraylength, 1) := by decide +kernel
theorem dX8_value_10 : decode cX8_value 10 = .ok (.if_icmp .ge 12, 3) := by decide +kernel
theorem dX8_value_13 : decode cX8_value 13 = .ok (.aload_n 0, 1) := by decide +kernel
theorem dX8_value_14 : decode cX8_value 14 = .ok (.getfield 24, 3) := by decide +kernel
theorem dX8_value_17 : decode cX8_value 17 = .ok (.iload_n 1, 1) := by decide +kernel
theorem dX8_value_18 : decode cX8_value 18 = .ok (.iaload, 1) := by decide +kernel
theorem dX8_value_19 : decode cX8_value 19 = .ok (.goto 4, 3) := by decide +kernel
theorem dX8_value_22 : decode cX8_value 22 = .ok (.iconst 0, 1) := by decide +kernel
theorem dX8_value_23 : decode cX8_value 23 = .ok (.ireturn, 1) := by decide +kernel
theorem dX8_readTape_0 : decode cX8_readTape 0 = .ok (.aload_n 0, 1) := by decide +kernel
theorem dX8_readTape_1 : decode cX8_readTape 1 = .ok (.iconst 0, 1) := by decide +kernel
theorem dX8_readTape_2 : decode cX8_readTape 2 = .ok (.putfield 27, 3) := by decide +kernel
theorem dX8_readTape_5 : decode cX8_readTape 5 = .ok (.aload_n 0, 1) := by decide +kernel
theorem dX8_readTape_6 : decode cX8_readTape 6 = .ok (.getfield 31, 3) := by decide +kernel
theorem dX8_readTape_9 : decode cX8_readTape 9 = .ok (.iconst 0, 1) := by decide +kernel
theorem dX8_readTape_10 : decode cX8_readTape 10 = .ok (.invokevirtual 42, 3) := by decide +kernel
theorem dX8_readTape_13 : decode cX8_readTape 13 = .ok (.istore_n 1, 1) := by decide +kernel
theorem dX8_readTape_14 : decode cX8_readTape 14 = .ok (.iconst 0, 1) := by decide +kernel
theorem dX8_readTape_15 : decode cX8_readTape 15 = .ok (.istore_n 2, 1) := by decide +kernel
theorem dX8_readTape_16 : decode cX8_readTape 16 = .ok (.iload_n 2, 1) := by decide +kernel
theorem dX8_readTape_17 : decode cX8_readTape 17 = .ok (.sipush 400, 3) := by decide +kernel
theorem dX8_readTape_20 : decode cX8_readTape 20 = .ok (.if_icmp .gt 52, 3) := by decide +kernel
theorem dX8_readTape_23 : decode cX8_readTape 23 = .ok (.aload_n 0, 1) := by decide +kernel
theorem dX8_readTape_24 : decode cX8_readTape 24 = .ok (.iload_n 1, 1) := by decide +kernel
theorem dX8_readTape_25 : decode cX8_readTape 25 = .ok (.invokevirtual 48, 3) := by decide +kernel
theorem dX8_readTape_28 : decode cX8_readTape 28 = .ok (.aload_n 0, 1) := by decide +kernel
theorem dX8_readTape_29 : decode cX8_readTape 29 = .ok (.iload_n 2, 1) := by decide +kernel
theorem dX8_readTape_30 : decode cX8_readTape 30 = .ok (.invokevirtual 52, 3) := by decide +kernel
theorem dX8_readTape_33 : decode cX8_readTape 33 = .ok (.getstatic 35, 3) := by decide +kernel
theorem dX8_readTape_36 : decode cX8_readTape 36 = .ok (.if_acmp .eq 14, 3) := by decide +kernel
theorem dX8_readTape_39 : decode cX8_readTape 39 = .ok (.aload_n 0, 1) := by decide +kernel
theorem dX8_readTape_40 : decode cX8_readTape 40 = .ok (.iload_n 2, 1) := by decide +kernel
theorem dX8_readTape_41 : decode cX8_readTape 41 = .ok (.invokevirtual 52, 3) := by decide +kernel
theorem dX8_readTape_44 : decode cX8_readTape 44 = .ok (.getstatic 39, 3) := by decide +kernel
theorem dX8_readTape_47 : decode cX8_readTape 47 = .ok (.if_acmp .ne 4, 3) := by decide +kernel
theorem dX8_readTape_50 : decode cX8_readTape 50 = .ok (.return_, 1) := by decide +kernel
theorem dX8_readTape_51 : decode cX8_readTape 51 = .ok (.aload_n 0, 1) := by decide +kernel
theorem dX8_readTape_52 : decode cX8_readTape 52 = .ok (.getfield 31, 3) := by decide +kernel
theorem dX8_readTape_55 : decode cX8_readTape 55 = .ok (.iload_n 1, 1) := by decide +kernel
theorem dX8_readTape_56 : decode cX8_readTape 56 = .ok (.aload_n 0, 1) := by decide +kernel
theorem dX8_readTape_57 : decode cX8_readTape 57 = .ok (.iload_n 2, 1) := by decide +kernel
theorem dX8_readTape_58 : decode cX8_readTape 58 = .ok (.invokevirtual 56, 3) := by decide +kernel
theorem dX8_readTape_61 : decode cX8_readTape 61 = .ok (.iadd, 1) := by decide +kernel
theorem dX8_readTape_62 : decode cX8_readTape 62 = .ok (.invokevirtual 42, 3) := by decide +kernel
theorem dX8_readTape_65 : decode cX8_readTape 65 = .ok (.istore_n 1, 1) := by decide +kernel
theorem dX8_readTape_66 : decode cX8_readTape 66 = .ok (.iinc 2 1, 3) := by decide +kernel
theorem dX8_readTape_69 : decode cX8_readTape 69 = .ok (.goto (-53), 3) := by decide +kernel
theorem dX8_readTape_72 : decode cX8_readTape 72 = .ok (.return_, 1) := by decide +kernel
theorem dX8_readToken_0 : decode cX8_readToken 0 = .ok (.iload_n 1, 1) := by decide +kernel
theorem dX8_readToken_1 : decode cX8_readToken 1 = .ok (.aload_n 0, 1) := by decide +kernel
theorem dX8_readToken_2 : decode cX8_readToken 2 = .ok (.getfield 31, 3) := by decide +kernel
theorem dX8_readToken_5 : decode cX8_readToken 5 = .ok (.getfield 59, 3) := by decide +kernel
theorem dX8_readToken_8 : decode cX8_readToken 8 = .ok (.if_icmp .lt 16, 3) := by decide +kernel
theorem dX8_readToken_11 : decode cX8_readToken 11 = .ok (.aload_n 0, 1) := by decide +kernel
theorem dX8_readToken_12 : decode cX8_readToken 12 = .ok (.getstatic 35, 3) := by decide +kernel
theorem dX8_readToken_15 : decode cX8_readToken 15 = .ok (.iload_n 1, 1) := by decide +kernel
theorem dX8_readToken_16 : decode cX8_readToken 16 = .ok (.iconst 0, 1) := by decide +kernel
theorem dX8_readToken_17 : decode cX8_readToken 17 = .ok (.iconst 0, 1) := by decide +kernel
theorem dX8_readToken_18 : decode cX8_readToken 18 = .ok (.invokevirtual 62, 3) := by decide +kernel
theorem dX8_readToken_21 : decode cX8_readToken 21 = .ok (.goto 69, 3) := by decide +kernel
theorem dX8_readToken_24 : decode cX8_readToken 24 = .ok (.aload_n 0, 1) := by decide +kernel
theorem dX8_readToken_25 : decode cX8_readToken 25 = .ok (.getfield 27, 3) := by decide +kernel
theorem dX8_readToken_28 : decode cX8_readToken 28 = .ok (.sipush 400, 3) := by decide +kernel
theorem dX8_readToken_31 : decode cX8_readToken 31 = .ok (.if_icmp .lt 16, 3) := by decide +kernel
theorem dX8_readToken_34 : decode cX8_readToken 34 = .ok (.aload_n 0, 1) := by decide +kernel
theorem dX8_readToken_35 : decode cX8_readToken 35 = .ok (.getstatic 39, 3) := by decide +kernel
theorem dX8_readToken_38 : decode cX8_readToken 38 = .ok (.iload_n 1, 1) := by decide +kernel
theorem dX8_readToken_39 : decode cX8_readToken 39 = .ok (.iconst 0, 1) := by decide +kernel
theorem dX8_readToken_40 : decode cX8_readToken 40 = .ok (.iconst 0, 1) := by decide +kernel
theorem dX8_readToken_41 : decode cX8_readToken 41 = .ok (.invokevirtual 62, 3) := by decide +kernel
theorem dX8_readToken_44 : decode cX8_readToken 44 = .ok (.goto 46, 3) := by decide +kernel
theorem dX8_readToken_47 : decode cX8_readToken 47 = .ok (.aload_n 0, 1) := by decide +kernel
theorem dX8_readToken_48 : decode cX8_readToken 48 = .ok (.getfield 31, 3) := by decide +kernel
theorem dX8_readToken_51 : decode cX8_readToken 51 = .ok (.iload_n 1, 1) := by decide +kernel
theorem dX8_readToken_52 : decode cX8_readToken 52 = .ok (.invokevirtual 66, 3) := by decide +kernel
theorem dX8_readToken_55 : decode cX8_readToken 55 = .ok (.ifCond .eq 11, 3) := by decide +kernel
theorem dX8_readToken_58 : decode cX8_readToken 58 = .ok (.aload_n 0, 1) := by decide +kernel
theorem dX8_readToken_59 : decode cX8_readToken 59 = .ok (.iload_n 1, 1) := by decide +kernel
theorem dX8_readToken_60 : decode cX8_readToken 60 = .ok (.invokevirtual 70, 3) := by decide +kernel
theorem dX8_readToken_63 : decode cX8_readToken 63 = .ok (.goto 27, 3) := by decide +kernel
theorem dX8_readToken_66 : decode cX8_readToken 66 = .ok (.aload_n 0, 1) := by decide +kernel
theorem dX8_readToken_67 : decode cX8_readToken 67 = .ok (.getfield 31, 3) := by decide +kernel
theorem dX8_readToken_70 : decode cX8_readToken 70 = .ok (.iload_n 1, 1) := by decide +kernel
theorem dX8_readToken_71 : decode cX8_readToken 71 = .ok (.invokevirtual 73, 3) := by decide +kernel
theorem dX8_readToken_74 : decode cX8_readToken 74 = .ok (.ifCond .eq 11, 3) := by decide +kernel
theorem dX8_readToken_77 : decode cX8_readToken 77 = .ok (.aload_n 0, 1) := by decide +kernel
theorem dX8_readToken_78 : decode cX8_readToken 78 = .ok (.iload_n 1, 1) := by decide +kernel
theorem dX8_readToken_79 : decode cX8_readToken 79 = .ok (.invokevirtual 76, 3) := by decide +kernel
theorem dX8_readToken_82 : decode cX8_readToken 82 = .ok (.goto 8, 3) := by decide +kernel
theorem dX8_readToken_85 : decode cX8_readToken 85 = .ok (.aload_n 0, 1) := by decide +kernel
theorem dX8_readToken_86 : decode cX8_readToken 86 = .ok (.iload_n 1, 1) := by decide +kernel
theorem dX8_readToken_87 : decode cX8_readToken 87 = .ok (.invokevirtual 79, 3) := by decide +kernel
theorem dX8_readToken_90 : decode cX8_readToken 90 = .ok (.return_, 1) := by decide +kernel
theorem dX8_add_0 : decode cX8_add 0 = .ok (.aload_n 0, 1) := by decide +kernel
theorem dX8_add_1 : decode cX8_add 1 = .ok (.getfield 27, 3) := by decide +kernel
theorem dX8_add_4 : decode cX8_add 4 = .ok (.ifCond .lt 102, 3) := by decide +kernel
theorem dX8_add_7 : decode cX8_add 7 = .ok (.aload_n 0, 1) := by decide +kernel
theorem dX8_add_8 : decode cX8_add 8 = .ok (.getfield 27, 3) := by decide +kernel
theorem dX8_add_11 : decode cX8_add 11 = .ok (.aload_n 0, 1) := by decide +kernel
theorem dX8_add_12 : decode cX8_add 12 = .ok (.getfield 11, 3) := by decide +kernel
theorem dX8_add_15 : decode cX8_add 15 = .ok (.arraylength, 1) := by decide +kernel
theorem dX8_add_16 : decode cX8_add 16 = .ok (.if_icmp .ge 90, 3) := by decide +kernel
theorem dX8_add_19 : decode cX8_add 19 = .ok (.aload_n 0, 1) := by decide +kernel
theorem dX8_add_20 : decode cX8_add 20 = .ok (.getfield 27, 3) := by decide +kernel
theorem dX8_add_23 : decode cX8_add 23 = .ok (.aload_n 0, 1) := by decide +kernel
theorem dX8_add_24 : decode cX8_add 24 = .ok (.getfield 17, 3) := by decide +kernel
theorem dX8_add_27 : decode cX8_add 27 = .ok (.arraylength, 1) := by decide +kernel
theorem dX8_add_28 : decode cX8_add 28 = .ok (.if_icmp .ge 78, 3) := by decide +kernel
theorem dX8_add_31 : decode cX8_add 31 = .ok (.aload_n 0, 1) := by decide +kernel
theorem dX8_add_32 : decode cX8_add 32 = .ok (.getfield 27, 3) := by decide +kernel
theorem dX8_add_35 : decode cX8_add 35 = .ok (.aload_n 0, 1) := by decide +kernel
theorem dX8_add_36 : decode cX8_add 36 = .ok (.getfield 21, 3) := by decide +kernel
theorem dX8_add_39 : decode cX8_add 39 = .ok (.arraylength, 1) := by decide +kernel
theorem dX8_add_40 : decode cX8_add 40 = .ok (.if_icmp .ge 66, 3) := by decide +kernel
theorem dX8_add_43 : decode cX8_add 43 = .ok (.aload_n 0, 1) := by decide +kernel
theorem dX8_add_44 : decode cX8_add 44 = .ok (.getfield 27, 3) := by decide +kernel
theorem dX8_add_47 : decode cX8_add 47 = .ok (.aload_n 0, 1) := by decide +kernel
theorem dX8_add_48 : decode cX8_add 48 = .ok (.getfield 24, 3) := by decide +kernel
theorem dX8_add_51 : decode cX8_add 51 = .ok (.arraylength, 1) := by decide +kernel
theorem dX8_add_52 : decode cX8_add 52 = .ok (.if_icmp .ge 54, 3) := by decide +kernel
theorem dX8_add_55 : decode cX8_add 55 = .ok (.aload_n 0, 1) := by decide +kernel
theorem dX8_add_56 : decode cX8_add 56 = .ok (.getfield 11, 3) := by decide +kernel
theorem dX8_add_59 : decode cX8_add 59 = .ok (.aload_n 0, 1) := by decide +kernel
theorem dX8_add_60 : decode cX8_add 60 = .ok (.getfield 27, 3) := by decide +kernel
theorem dX8_add_63 : decode cX8_add 63 = .ok (.aload_n 1, 1) := by decide +kernel
theorem dX8_add_64 : decode cX8_add 64 = .ok (.aastore, 1) := by decide +kernel
theorem dX8_add_65 : decode cX8_add 65 = .ok (.aload_n 0, 1) := by decide +kernel
theorem dX8_add_66 : decode cX8_add 66 = .ok (.getfield 17, 3) := by decide +kernel
theorem dX8_add_69 : decode cX8_add 69 = .ok (.aload_n 0, 1) := by decide +kernel
theorem dX8_add_70 : decode cX8_add 70 = .ok (.getfield 27, 3) := by decide +kernel
theorem dX8_add_73 : decode cX8_add 73 = .ok (.iload_n 2, 1) := by decide +kernel
theorem dX8_add_74 : decode cX8_add 74 = .ok (.iastore, 1) := by decide +kernel
theorem dX8_add_75 : decode cX8_add 75 = .ok (.aload_n 0, 1) := by decide +kernel
theorem dX8_add_76 : decode cX8_add 76 = .ok (.getfield 21, 3) := by decide +kernel
theorem dX8_add_79 : decode cX8_add 79 = .ok (.aload_n 0, 1) := by decide +kernel
theorem dX8_add_80 : decode cX8_add 80 = .ok (.getfield 27, 3) := by decide +kernel
theorem dX8_add_83 : decode cX8_add 83 = .ok (.iload_n 3, 1) := by decide +kernel
theorem dX8_add_84 : decode cX8_add 84 = .ok (.iastore, 1) := by decide +kernel
theorem dX8_add_85 : decode cX8_add 85 = .ok (.aload_n 0, 1) := by decide +kernel
theorem dX8_add_86 : decode cX8_add 86 = .ok (.getfield 24, 3) := by decide +kernel
theorem dX8_add_89 : decode cX8_add 89 = .ok (.aload_n 0, 1) := by decide +kernel
theorem dX8_add_90 : decode cX8_add 90 = .ok (.getfield 27, 3) := by decide +kernel
theorem dX8_add_93 : decode cX8_add 93 = .ok (.iload 4, 2) := by decide +kernel
theorem dX8_add_95 : decode cX8_add 95 = .ok (.iastore, 1) := by decide +kernel
theorem dX8_add_96 : decode cX8_add 96 = .ok (.aload_n 0, 1) := by decide +kernel
theorem dX8_add_97 : decode cX8_add 97 = .ok (.dup, 1) := by decide +kernel
theorem dX8_add_98 : decode cX8_add 98 = .ok (.getfield 27, 3) := by decide +kernel
theorem dX8_add_101 : decode cX8_add 101 = .ok (.iconst 1, 1) := by decide +kernel
theorem dX8_add_102 : decode cX8_add 102 = .ok (.iadd, 1) := by decide +kernel
theorem dX8_add_103 : decode cX8_add 103 = .ok (.putfield 27, 3) := by decide +kernel
theorem dX8_add_106 : decode cX8_add 106 = .ok (.return_, 1) := by decide +kernel
theorem dX8_readWord_0 : decode cX8_readWord 0 = .ok (.iload_n 1, 1) := by decide +kernel
theorem dX8_readWord_1 : decode cX8_readWord 1 = .ok (.istore_n 2, 1) := by decide +kernel
theorem dX8_readWord_2 : decode cX8_readWord 2 = .ok (.iload_n 2, 1) := by decide +kernel
theorem dX8_readWord_3 : decode cX8_readWord 3 = .ok (.aload_n 0, 1) := by decide +kernel
theorem dX8_readWord_4 : decode cX8_readWord 4 = .ok (.getfield 31, 3) := by decide +kernel
theorem dX8_readWord_7 : decode cX8_readWord 7 = .ok (.getfield 59, 3) := by decide +kernel
theorem dX8_readWord_10 : decode cX8_readWord 10 = .ok (.if_icmp .ge 31, 3) := by decide +kernel
theorem dX8_readWord_13 : decode cX8_readWord 13 = .ok (.aload_n 0, 1) := by decide +kernel
theorem dX8_readWord_14 : decode cX8_readWord 14 = .ok (.getfield 31, 3) := by decide +kernel
theorem dX8_readWord_17 : decode cX8_readWord 17 = .ok (.iload_n 2, 1) := by decide +kernel
theorem dX8_readWord_18 : decode cX8_readWord 18 = .ok (.invokevirtual 66, 3) := by decide +kernel
theorem dX8_readWord_21 : decode cX8_readWord 21 = .ok (.ifCond .ne 14, 3) := by decide +kernel
theorem dX8_readWord_24 : decode cX8_readWord 24 = .ok (.aload_n 0, 1) := by decide +kernel
theorem dX8_readWord_25 : decode cX8_readWord 25 = .ok (.getfield 31, 3) := by decide +kernel
theorem dX8_readWord_28 : decode cX8_readWord 28 = .ok (.iload_n 2, 1) := by decide +kernel
theorem dX8_readWord_29 : decode cX8_readWord 29 = .ok (.invokevirtual 73, 3) := by decide +kernel
theorem dX8_readWord_32 : decode cX8_readWord 32 = .ok (.ifCond .eq 9, 3) := by decide +kernel
theorem dX8_readWord_35 : decode cX8_readWord 35 = .ok (.iinc 2 1, 3) := by decide +kernel
theorem dX8_readWord_38 : decode cX8_readWord 38 = .ok (.goto (-36), 3) := by decide +kernel
theorem dX8_readWord_41 : decode cX8_readWord 41 = .ok (.iload_n 2, 1) := by decide +kernel
theorem dX8_readWord_42 : decode cX8_readWord 42 = .ok (.iload_n 1, 1) := by decide +kernel
theorem dX8_readWord_43 : decode cX8_readWord 43 = .ok (.isub, 1) := by decide +kernel
theorem dX8_readWord_44 : decode cX8_readWord 44 = .ok (.istore_n 3, 1) := by decide +kernel
theorem dX8_readWord_45 : decode cX8_readWord 45 = .ok (.iload_n 3, 1) := by decide +kernel
theorem dX8_readWord_46 : decode cX8_readWord 46 = .ok (.bipush 10, 2) := by decide +kernel
theorem dX8_readWord_48 : decode cX8_readWord 48 = .ok (.if_icmp .le 14, 3) := by decide +kernel
theorem dX8_readWord_51 : decode cX8_readWord 51 = .ok (.aload_n 0, 1) := by decide +kernel
theorem dX8_readWord_52 : decode cX8_readWord 52 = .ok (.getstatic 39, 3) := by decide +kernel
theorem dX8_readWord_55 : decode cX8_readWord 55 = .ok (.iload_n 1, 1) := by decide +kernel
theorem dX8_readWord_56 : decode cX8_readWord 56 = .ok (.iload_n 3, 1) := by decide +kernel
theorem dX8_readWord_57 : decode cX8_readWord 57 = .ok (.iconst 0, 1) := by decide +kernel
theorem dX8_readWord_58 : decode cX8_readWord 58 = .ok (.invokevirtual 62, 3) := by decide +kernel
theorem dX8_readWord_61 : decode cX8_readWord 61 = .ok (.return_, 1) := by decide +kernel
theorem dX8_readWord_62 : decode cX8_readWord 62 = .ok (.aload_n 0, 1) := by decide +kernel
theorem dX8_readWord_63 : decode cX8_readWord 63 = .ok (.iload_n 1, 1) := by decide +kernel
theorem dX8_readWord_64 : decode cX8_readWord 64 = .ok (.invokevirtual 82, 3) := by decide +kernel
theorem dX8_readWord_67 : decode cX8_readWord 67 = .ok (.astore 4, 2) := by decide +kernel
theorem dX8_readWord_69 : decode cX8_readWord 69 = .ok (.aload 4, 2) := by decide +kernel
theorem dX8_readWord_71 : decode cX8_readWord 71 = .ok (.getfield 85, 3) := by decide +kernel
theorem dX8_readWord_74 : decode cX8_readWord 74 = .ok (.invokevirtual 89, 3) := by decide +kernel
theorem dX8_readWord_77 : decode cX8_readWord 77 = .ok (.iload_n 3, 1) := by decide +kernel
theorem dX8_readWord_78 : decode cX8_readWord 78 = .ok (.if_icmp .ne 15, 3) := by decide +kernel
theorem dX8_readWord_81 : decode cX8_readWord 81 = .ok (.aload_n 0, 1) := by decide +kernel
theorem dX8_readWord_82 : decode cX8_readWord 82 = .ok (.aload 4, 2) := by decide +kernel
theorem dX8_readWord_84 : decode cX8_readWord 84 = .ok (.iload_n 1, 1) := by decide +kernel
theorem dX8_readWord_85 : decode cX8_readWord 85 = .ok (.iload_n 3, 1) := by decide +kernel
theorem dX8_readWord_86 : decode cX8_readWord 86 = .ok (.iconst 0, 1) := by decide +kernel
theorem dX8_readWord_87 : decode cX8_readWord 87 = .ok (.invokevirtual 62, 3) := by decide +kernel
theorem dX8_readWord_90 : decode cX8_readWord 90 = .ok (.goto 18, 3) := by decide +kernel
theorem dX8_readWord_93 : decode cX8_readWord 93 = .ok (.aload_n 0, 1) := by decide +kernel
theorem dX8_readWord_94 : decode cX8_readWord 94 = .ok (.getstatic 94, 3) := by decide +kernel
theorem dX8_readWord_97 : decode cX8_readWord 97 = .ok (.iload_n 1, 1) := by decide +kernel
theorem dX8_readWord_98 : decode cX8_readWord 98 = .ok (.iload_n 3, 1) := by decide +kernel
theorem dX8_readWord_99 : decode cX8_readWord 99 = .ok (.aload_n 0, 1) := by decide +kernel
theorem dX8_readWord_100 : decode cX8_readWord 100 = .ok (.iload_n 1, 1) := by decide +kernel
theorem dX8_readWord_101 : decode cX8_readWord 101 = .ok (.iload_n 3, 1) := by decide +kernel
theorem dX8_readWord_102 : decode cX8_readWord 102 = .ok (.invokevirtual 97, 3) := by decide +kernel
theorem dX8_readWord_105 : decode cX8_readWord 105 = .ok (.invokevirtual 62, 3) := by decide +kernel
theorem dX8_readWord_108 : decode cX8_readWord 108 = .ok (.return_, 1) := by decide +kernel
theorem dX8_readNumber_0 : decode cX8_readNumber 0 = .ok (.iload_n 1, 1) := by decide +kernel
theorem dX8_readNumber_1 : decode cX8_readNumber 1 = .ok (.istore_n 2, 1) := by decide +kernel
theorem dX8_readNumber_2 : decode cX8_readNumber 2 = .ok (.iconst 0, 1) := by decide +kernel
theorem dX8_readNumber_3 : decode cX8_readNumber 3 = .ok (.istore_n 3, 1) := by decide +kernel
theorem dX8_readNumber_4 : decode cX8_readNumber 4 = .ok (.iload_n 2, 1) := by decide +kernel
theorem dX8_readNumber_5 : decode cX8_readNumber 5 = .ok (.aload_n 0, 1) := by decide +kernel
theorem dX8_readNumber_6 : decode cX8_readNumber 6 = .ok (.getfield 31, 3) := by decide +kernel
theorem dX8_readNumber_9 : decode cX8_readNumber 9 = .ok (.getfield 59, 3) := by decide +kernel
theorem dX8_readNumber_12 : decode cX8_readNumber 12 = .ok (.if_icmp .ge 37, 3) := by decide +kernel
theorem dX8_readNumber_15 : decode cX8_readNumber 15 = .ok (.aload_n 0, 1) := by decide +kernel
theorem dX8_readNumber_16 : decode cX8_readNumber 16 = .ok (.getfield 31, 3) := by decide +kernel
theorem dX8_readNumber_19 : decode cX8_readNumber 19 = .ok (.iload_n 2, 1) := by decide +kernel
theorem dX8_readNumber_20 : decode cX8_readNumber 20 = .ok (.invokevirtual 73, 3) := by decide +kernel
theorem dX8_readNumber_23 : decode cX8_readNumber 23 = .ok (.ifCond .eq 26, 3) := by decide +kernel
theorem dX8_readNumber_26 : decode cX8_readNumber 26 = .ok (.iload_n 3, 1) := by decide +kernel
theorem dX8_readNumber_27 : decode cX8_readNumber 27 = .ok (.bipush 10, 2) := by decide +kernel
theorem dX8_readNumber_29 : decode cX8_readNumber 29 = .ok (.imul, 1) := by decide +kernel
theorem dX8_readNumber_30 : decode cX8_readNumber 30 = .ok (.aload_n 0, 1) := by decide +kernel
theorem dX8_readNumber_31 : decode cX8_readNumber 31 = .ok (.getfield 31, 3) := by decide +kernel
theorem dX8_readNumber_34 : decode cX8_readNumber 34 = .ok (.iload_n 2, 1) := by decide +kernel
theorem dX8_readNumber_35 : decode cX8_readNumber 35 = .ok (.invokevirtual 101, 3) := by decide +kernel
theorem dX8_readNumber_38 : decode cX8_readNumber 38 = .ok (.iadd, 1) := by decide +kernel
theorem dX8_readNumber_39 : decode cX8_readNumber 39 = .ok (.bipush 48, 2) := by decide +kernel
theorem dX8_readNumber_41 : decode cX8_readNumber 41 = .ok (.isub, 1) := by decide +kernel
theorem dX8_readNumber_42 : decode cX8_readNumber 42 = .ok (.istore_n 3, 1) := by decide +kernel
theorem dX8_readNumber_43 : decode cX8_readNumber 43 = .ok (.iinc 2 1, 3) := by decide +kernel
theorem dX8_readNumber_46 : decode cX8_readNumber 46 = .ok (.goto (-42), 3) := by decide +kernel
theorem dX8_readNumber_49 : decode cX8_readNumber 49 = .ok (.iload_n 2, 1) := by decide +kernel
theorem dX8_readNumber_50 : decode cX8_readNumber 50 = .ok (.iload_n 1, 1) := by decide +kernel
theorem dX8_readNumber_51 : decode cX8_readNumber 51 = .ok (.isub, 1) := by decide +kernel
theorem dX8_readNumber_52 : decode cX8_readNumber 52 = .ok (.istore 4, 2) := by decide +kernel
theorem dX8_readNumber_54 : decode cX8_readNumber 54 = .ok (.aload_n 0, 1) := by decide +kernel
theorem dX8_readNumber_55 : decode cX8_readNumber 55 = .ok (.iload 4, 2) := by decide +kernel
theorem dX8_readNumber_57 : decode cX8_readNumber 57 = .ok (.bipush 6, 2) := by decide +kernel
theorem dX8_readNumber_59 : decode cX8_readNumber 59 = .ok (.if_icmp .le 9, 3) := by decide +kernel
theorem dX8_readNumber_62 : decode cX8_readNumber 62 = .ok (.getstatic 39, 3) := by decide +kernel
theorem dX8_readNumber_65 : decode cX8_readNumber 65 = .ok (.goto 6, 3) := by decide +kernel
theorem dX8_readNumber_68 : decode cX8_readNumber 68 = .ok (.getstatic 104, 3) := by decide +kernel
theorem dX8_readNumber_71 : decode cX8_readNumber 71 = .ok (.iload_n 1, 1) := by decide +kernel
theorem dX8_readNumber_72 : decode cX8_readNumber 72 = .ok (.iload 4, 2) := by decide +kernel
theorem dX8_readNumber_74 : decode cX8_readNumber 74 = .ok (.iload_n 3, 1) := by decide +kernel
theorem dX8_readNumber_75 : decode cX8_readNumber 75 = .ok (.invokevirtual 62, 3) := by decide +kernel
theorem dX8_readNumber_78 : decode cX8_readNumber 78 = .ok (.return_, 1) := by decide +kernel
theorem dX8_readSymbol_0 : decode cX8_readSymbol 0 = .ok (.aload_n 0, 1) := by decide +kernel
theorem dX8_readSymbol_1 : decode cX8_readSymbol 1 = .ok (.iload_n 1, 1) := by decide +kernel
theorem dX8_readSymbol_2 : decode cX8_readSymbol 2 = .ok (.invokevirtual 82, 3) := by decide +kernel
theorem dX8_readSymbol_5 : decode cX8_readSymbol 5 = .ok (.astore_n 2, 1) := by decide +kernel
theorem dX8_readSymbol_6 : decode cX8_readSymbol 6 = .ok (.aload_n 0, 1) := by decide +kernel
theorem dX8_readSymbol_7 : decode cX8_readSymbol 7 = .ok (.aload_n 2, 1) := by decide +kernel
theorem dX8_readSymbol_8 : decode cX8_readSymbol 8 = .ok (.iload_n 1, 1) := by decide +kernel
theorem dX8_readSymbol_9 : decode cX8_readSymbol 9 = .ok (.aload_n 2, 1) := by decide +kernel
theorem dX8_readSymbol_10 : decode cX8_readSymbol 10 = .ok (.getfield 85, 3) := by decide +kernel
theorem dX8_readSymbol_13 : decode cX8_readSymbol 13 = .ok (.invokevirtual 89, 3) := by decide +kernel
theorem dX8_readSymbol_16 : decode cX8_readSymbol 16 = .ok (.iconst 0, 1) := by decide +kernel
theorem dX8_readSymbol_17 : decode cX8_readSymbol 17 = .ok (.invokevirtual 62, 3) := by decide +kernel
theorem dX8_readSymbol_20 : decode cX8_readSymbol 20 = .ok (.return_, 1) := by decide +kernel
theorem dX8_longestSpelled_0 : decode cX8_longestSpelled 0 = .ok (.getstatic 39, 3) := by decide +kernel
theorem dX8_longestSpelled_3 : decode cX8_longestSpelled 3 = .ok (.astore_n 2, 1) := by decide +kernel
theorem dX8_longestSpelled_4 : decode cX8_longestSpelled 4 = .ok (.iconst 0, 1) := by decide +kernel
theorem dX8_longestSpelled_5 : decode cX8_longestSpelled 5 = .ok (.istore_n 3, 1) := by decide +kernel
theorem dX8_longestSpelled_6 : decode cX8_longestSpelled 6 = .ok (.iload_n 3, 1) := by decide +kernel
theorem dX8_longestSpelled_7 : decode cX8_longestSpelled 7 = .ok (.getstatic 107, 3) := by decide +kernel
theorem dX8_longestSpelled_10 : decode cX8_longestSpelled 10 = .ok (.arraylength, 1) := by decide +kernel
theorem dX8_longestSpelled_11 : decode cX8_longestSpelled 11 = .ok (.if_icmp .ge 53, 3) := by decide +kernel
theorem dX8_longestSpelled_14 : decode cX8_longestSpelled 14 = .ok (.getstatic 107, 3) := by decide +kernel
theorem dX8_longestSpelled_17 : decode cX8_longestSpelled 17 = .ok (.iload_n 3, 1) := by decide +kernel
theorem dX8_longestSpelled_18 : decode cX8_longestSpelled 18 = .ok (.aaload, 1) := by decide +kernel
theorem dX8_longestSpelled_19 : decode cX8_longestSpelled 19 = .ok (.getfield 85, 3) := by decide +kernel
theorem dX8_longestSpelled_22 : decode cX8_longestSpelled 22 = .ok (.astore 4, 2) := by decide +kernel
theorem dX8_longestSpelled_24 : decode cX8_longestSpelled 24 = .ok (.aload 4, 2) := by decide +kernel
theorem dX8_longestSpelled_26 : decode cX8_longestSpelled 26 = .ok (.invokevirtual 89, 3) := by decide +kernel
theorem dX8_longestSpelled_29 : decode cX8_longestSpelled 29 = .ok (.aload_n 2, 1) := by decide +kernel
theorem dX8_longestSpelled_30 : decode cX8_longestSpelled 30 = .ok (.getfield 85, 3) := by decide +kernel
theorem dX8_longestSpelled_33 : decode cX8_longestSpelled 33 = .ok (.invokevirtual 89, 3) := by decide +kernel
theorem dX8_longestSpelled_36 : decode cX8_longestSpelled 36 = .ok (.if_icmp .le 22, 3) := by decide +kernel
theorem dX8_longestSpelled_39 : decode cX8_longestSpelled 39 = .ok (.aload_n 0, 1) := by decide +kernel
theorem dX8_longestSpelled_40 : decode cX8_longestSpelled 40 = .ok (.getfield 31, 3) := by decide +kernel
theorem dX8_longestSpelled_43 : decode cX8_longestSpelled 43 = .ok (.iload_n 1, 1) := by decide +kernel
theorem dX8_longestSpelled_44 : decode cX8_longestSpelled 44 = .ok (.aload 4, 2) := by decide +kernel
theorem dX8_longestSpelled_46 : decode cX8_longestSpelled 46 = .ok (.invokevirtual 110, 3) := by decide +kernel
theorem dX8_longestSpelled_49 : decode cX8_longestSpelled 49 = .ok (.ifCond .eq 9, 3) := by decide +kernel
theorem dX8_longestSpelled_52 : decode cX8_longestSpelled 52 = .ok (.getstatic 107, 3) := by decide +kernel
theorem dX8_longestSpelled_55 : decode cX8_longestSpelled 55 = .ok (.iload_n 3, 1) := by decide +kernel
theorem dX8_longestSpelled_56 : decode cX8_longestSpelled 56 = .ok (.aaload, 1) := by decide +kernel
theorem dX8_longestSpelled_57 : decode cX8_longestSpelled 57 = .ok (.astore_n 2, 1) := by decide +kernel
theorem dX8_longestSpelled_58 : decode cX8_longestSpelled 58 = .ok (.iinc 3 1, 3) := by decide +kernel
theorem dX8_longestSpelled_61 : decode cX8_longestSpelled 61 = .ok (.goto (-55), 3) := by decide +kernel
theorem dX8_longestSpelled_64 : decode cX8_longestSpelled 64 = .ok (.aload_n 2, 1) := by decide +kernel
theorem dX8_longestSpelled_65 : decode cX8_longestSpelled 65 = .ok (.areturn, 1) := by decide +kernel
theorem dX8_firstAlike_0 : decode cX8_firstAlike 0 = .ok (.iconst 0, 1) := by decide +kernel
theorem dX8_firstAlike_1 : decode cX8_firstAlike 1 = .ok (.istore_n 3, 1) := by decide +kernel
theorem dX8_firstAlike_2 : decode cX8_firstAlike 2 = .ok (.iload_n 3, 1) := by decide +kernel
theorem dX8_firstAlike_3 : decode cX8_firstAlike 3 = .ok (.aload_n 0, 1) := by decide +kernel
theorem dX8_firstAlike_4 : decode cX8_firstAlike 4 = .ok (.getfield 27, 3) := by decide +kernel
theorem dX8_firstAlike_7 : decode cX8_firstAlike 7 = .ok (.if_icmp .ge 48, 3) := by decide +kernel
theorem dX8_firstAlike_10 : decode cX8_firstAlike 10 = .ok (.aload_n 0, 1) := by decide +kernel
theorem dX8_firstAlike_11 : decode cX8_firstAlike 11 = .ok (.iload_n 3, 1) := by decide +kernel
theorem dX8_firstAlike_12 : decode cX8_firstAlike 12 = .ok (.invokevirtual 52, 3) := by decide +kernel
theorem dX8_firstAlike_15 : decode cX8_firstAlike 15 = .ok (.getstatic 94, 3) := by decide +kernel
theorem dX8_firstAlike_18 : decode cX8_firstAlike 18 = .ok (.if_acmp .ne 31, 3) := by decide +kernel
theorem dX8_firstAlike_21 : decode cX8_firstAlike 21 = .ok (.aload_n 0, 1) := by decide +kernel
theorem dX8_firstAlike_22 : decode cX8_firstAlike 22 = .ok (.iload_n 3, 1) := by decide +kernel
theorem dX8_firstAlike_23 : decode cX8_firstAlike 23 = .ok (.invokevirtual 56, 3) := by decide +kernel
theorem dX8_firstAlike_26 : decode cX8_firstAlike 26 = .ok (.iload_n 2, 1) := by decide +kernel
theorem dX8_firstAlike_27 : decode cX8_firstAlike 27 = .ok (.if_icmp .ne 22, 3) := by decide +kernel
theorem dX8_firstAlike_30 : decode cX8_firstAlike 30 = .ok (.aload_n 0, 1) := by decide +kernel
theorem dX8_firstAlike_31 : decode cX8_firstAlike 31 = .ok (.getfield 31, 3) := by decide +kernel
theorem dX8_firstAlike_34 : decode cX8_firstAlike 34 = .ok (.aload_n 0, 1) := by decide +kernel
theorem dX8_firstAlike_35 : decode cX8_firstAlike 35 = .ok (.iload_n 3, 1) := by decide +kernel
theorem dX8_firstAlike_36 : decode cX8_firstAlike 36 = .ok (.invokevirtual 114, 3) := by decide +kernel
theorem dX8_firstAlike_39 : decode cX8_firstAlike 39 = .ok (.iload_n 1, 1) := by decide +kernel
theorem dX8_firstAlike_40 : decode cX8_firstAlike 40 = .ok (.iload_n 2, 1) := by decide +kernel
theorem dX8_firstAlike_41 : decode cX8_firstAlike 41 = .ok (.invokevirtual 117, 3) := by decide +kernel
theorem dX8_firstAlike_44 : decode cX8_firstAlike 44 = .ok (.ifCond .eq 5, 3) := by decide +kernel
theorem dX8_firstAlike_47 : decode cX8_firstAlike 47 = .ok (.iload_n 3, 1) := by decide +kernel
theorem dX8_firstAlike_48 : decode cX8_firstAlike 48 = .ok (.ireturn, 1) := by decide +kernel
theorem dX8_firstAlike_49 : decode cX8_firstAlike 49 = .ok (.iinc 3 1, 3) := by decide +kernel
theorem dX8_firstAlike_52 : decode cX8_firstAlike 52 = .ok (.goto (-50), 3) := by decide +kernel
theorem dX8_firstAlike_55 : decode cX8_firstAlike 55 = .ok (.aload_n 0, 1) := by decide +kernel
theorem dX8_firstAlike_56 : decode cX8_firstAlike 56 = .ok (.getfield 27, 3) := by decide +kernel
theorem dX8_firstAlike_59 : decode cX8_firstAlike 59 = .ok (.ireturn, 1) := by decide +kernel
theorem dX9_init_0 : decode cX9_init 0 = .ok (.aload_n 0, 1) := by decide +kernel
theorem dX9_init_1 : decode cX9_init 1 = .ok (.invokespecial 3, 3) := by decide +kernel
theorem dX9_init_4 : decode cX9_init 4 = .ok (.aload_n 0, 1) := by decide +kernel
theorem dX9_init_5 : decode cX9_init 5 = .ok (.bipush 8, 2) := by decide +kernel
theorem dX9_init_7 : decode cX9_init 7 = .ok (.anewarray 9, 3) := by decide +kernel
theorem dX9_init_10 : decode cX9_init 10 = .ok (.putfield 11, 3) := by decide +kernel
theorem dX9_init_13 : decode cX9_init 13 = .ok (.aload_n 0, 1) := by decide +kernel
theorem dX9_init_14 : decode cX9_init 14 = .ok (.new 9, 3) := by decide +kernel
theorem dX9_init_17 : decode cX9_init 17 = .ok (.dup, 1) := by decide +kernel
theorem dX9_init_18 : decode cX9_init 18 = .ok (.invokespecial 17, 3) := by decide +kernel
theorem dX9_init_21 : decode cX9_init 21 = .ok (.putfield 18, 3) := by decide +kernel
theorem dX9_init_24 : decode cX9_init 24 = .ok (.aload_n 0, 1) := by decide +kernel
theorem dX9_init_25 : decode cX9_init 25 = .ok (.iconst 0, 1) := by decide +kernel
theorem dX9_init_26 : decode cX9_init 26 = .ok (.putfield 22, 3) := by decide +kernel
theorem dX9_init_29 : decode cX9_init 29 = .ok (.aload_n 0, 1) := by decide +kernel
theorem dX9_init_30 : decode cX9_init 30 = .ok (.iconst 0, 1) := by decide +kernel
theorem dX9_init_31 : decode cX9_init 31 = .ok (.putfield 26, 3) := by decide +kernel
theorem dX9_init_34 : decode cX9_init 34 = .ok (.aload_n 0, 1) := by decide +kernel
theorem dX9_init_35 : decode cX9_init 35 = .ok (.iconst 0, 1) := by decide +kernel
theorem dX9_init_36 : decode cX9_init 36 = .ok (.putfield 29, 3) := by decide +kernel
theorem dX9_init_39 : decode cX9_init 39 = .ok (.iconst 0, 1) := by decide +kernel
theorem dX9_init_40 : decode cX9_init 40 = .ok (.istore_n 1, 1) := by decide +kernel
theorem dX9_init_41 : decode cX9_init 41 = .ok (.iload_n 1, 1) := by decide +kernel
theorem dX9_init_42 : decode cX9_init 42 = .ok (.aload_n 0, 1) := by decide +kernel
theorem dX9_init_43 : decode cX9_init 43 = .ok (.getfield 11, 3) := by decide +kernel
theorem dX9_init_46 : decode cX9_init 46 = .ok (.arraylength, 1) := by decide +kernel
theorem dX9_init_47 : decode cX9_init 47 = .ok (.if_icmp .ge 22, 3) := by decide +kernel
theorem dX9_init_50 : decode cX9_init 50 = .ok (.aload_n 0, 1) := by decide +kernel
theorem dX9_init_51 : decode cX9_init 51 = .ok (.getfield 11, 3) := by decide +kernel
theorem dX9_init_54 : decode cX9_init 54 = .ok (.iload_n 1, 1) := by decide +kernel
theorem dX9_init_55 : decode cX9_init 55 = .ok (.new 9, 3) := by decide +kernel
theorem dX9_init_58 : decode cX9_init 58 = .ok (.dup, 1) := by decide +kernel
theorem dX9_init_59 : decode cX9_init 59 = .ok (.invokespecial 17, 3) := by decide +kernel
theorem dX9_init_62 : decode cX9_init 62 = .ok (.aastore, 1) := by decide +kernel
theorem dX9_init_63 : decode cX9_init 63 = .ok (.iinc 1 1, 3) := by decide +kernel
theorem dX9_init_66 : decode cX9_init 66 = .ok (.goto (-25), 3) := by decide +kernel
theorem dX9_init_69 : decode cX9_init 69 = .ok (.return_, 1) := by decide +kernel
theorem dX9_word_0 : decode cX9_word 0 = .ok (.iload_n 1, 1) := by decide +kernel
theorem dX9_word_1 : decode cX9_word 1 = .ok (.ifCond .lt 21, 3) := by decide +kernel
theorem dX9_word_4 : decode cX9_word 4 = .ok (.iload_n 1, 1) := by decide +kernel
theorem dX9_word_5 : decode cX9_word 5 = .ok (.aload_n 0, 1) := by decide +kernel
theorem dX9_word_6 : decode cX9_word 6 = .ok (.getfield 11, 3) := by decide +kernel
theorem dX9_word_9 : decode cX9_word 9 = .ok (.arraylength, 1) := by decide +kernel
theorem dX9_word_10 : decode cX9_word 10 = .ok (.if_icmp .ge 12, 3) := by decide +kernel
theorem dX9_word_13 : decode cX9_word 13 = .ok (.aload_n 0, 1) := by decide +kernel
theorem dX9_word_14 : decode cX9_word 14 = .ok (.getfield 11, 3) := by decide +kernel
theorem dX9_word_17 : decode cX9_word 17 = .ok (.iload_n 1, 1) := by decide +kernel
theorem dX9_word_18 : decode cX9_word 18 = .ok (.aaload, 1) := by decide +kernel
theorem dX9_word_19 : decode cX9_word 19 = .ok (.goto 7, 3) := by decide +kernel
theorem dX9_word_22 : decode cX9_word 22 = .ok (.aload_n 0, 1) := by decide +kernel
theorem dX9_word_23 : decode cX9_word 23 = .ok (.getfield 18, 3) := by decide +kernel
theorem dX9_word_26 : decode cX9_word 26 = .ok (.areturn, 1) := by decide +kernel
theorem dX9_clear_0 : decode cX9_clear 0 = .ok (.aload_n 0, 1) := by decide +kernel
theorem dX9_clear_1 : decode cX9_clear 1 = .ok (.iconst 0, 1) := by decide +kernel
theorem dX9_clear_2 : decode cX9_clear 2 = .ok (.putfield 22, 3) := by decide +kernel
theorem dX9_clear_5 : decode cX9_clear 5 = .ok (.aload_n 0, 1) := by decide +kernel
theorem dX9_clear_6 : decode cX9_clear 6 = .ok (.iconst 0, 1) := by decide +kernel
theorem dX9_clear_7 : decode cX9_clear 7 = .ok (.putfield 26, 3) := by decide +kernel
theorem dX9_clear_10 : decode cX9_clear 10 = .ok (.aload_n 0, 1) := by decide +kernel
theorem dX9_clear_11 : decode cX9_clear 11 = .ok (.iconst 0, 1) := by decide +kernel
theorem dX9_clear_12 : decode cX9_clear 12 = .ok (.putfield 29, 3) := by decide +kernel
theorem dX9_clear_15 : decode cX9_clear 15 = .ok (.return_, 1) := by decide +kernel
theorem dX9_addWord_0 : decode cX9_addWord 0 = .ok (.aload_n 0, 1) := by decide +kernel
theorem dX9_addWord_1 : decode cX9_addWord 1 = .ok (.getfield 22, 3) := by decide +kernel
theorem dX9_addWord_4 : decode cX9_addWord 4 = .ok (.bipush 8, 2) := by decide +kernel
theorem dX9_addWord_6 : decode cX9_addWord 6 = .ok (.if_icmp .ge 42, 3) := by decide +kernel
theorem dX9_addWord_9 : decode cX9_addWord 9 = .ok (.aload_n 0, 1) := by decide +kernel
theorem dX9_addWord_10 : decode cX9_addWord 10 = .ok (.aload_n 0, 1) := by decide +kernel
theorem dX9_addWord_11 : decode cX9_addWord 11 = .ok (.getfield 22, 3) := by decide +kernel
theorem dX9_addWord_14 : decode cX9_addWord 14 = .ok (.invokevirtual 32, 3) := by decide +kernel
theorem dX9_addWord_17 : decode cX9_addWord 17 = .ok (.astore_n 1, 1) := by decide +kernel
theorem dX9_addWord_18 : decode cX9_addWord 18 = .ok (.aload_n 1, 1) := by decide +kernel
theorem dX9_addWord_19 : decode cX9_addWord 19 = .ok (.getfield 36, 3) := by decide +kernel
theorem dX9_addWord_22 : decode cX9_addWord 22 = .ok (.iconst 0, 1) := by decide +kernel
theorem dX9_addWord_23 : decode cX9_addWord 23 = .ok (.putfield 40, 3) := by decide +kernel
theorem dX9_addWord_26 : decode cX9_addWord 26 = .ok (.aload_n 1, 1) := by decide +kernel
theorem dX9_addWord_27 : decode cX9_addWord 27 = .ok (.iconst 0, 1) := by decide +kernel
theorem dX9_addWord_28 : decode cX9_addWord 28 = .ok (.putfield 45, 3) := by decide +kernel
theorem dX9_addWord_31 : decode cX9_addWord 31 = .ok (.aload_n 1, 1) := by decide +kernel
theorem dX9_addWord_32 : decode cX9_addWord 32 = .ok (.sipush 999, 3) := by decide +kernel
theorem dX9_addWord_35 : decode cX9_addWord 35 = .ok (.putfield 49, 3) := by decide +kernel
theorem dX9_addWord_38 : decode cX9_addWord 38 = .ok (.aload_n 0, 1) := by decide +kernel
theorem dX9_addWord_39 : decode cX9_addWord 39 = .ok (.dup, 1) := by decide +kernel
theorem dX9_addWord_40 : decode cX9_addWord 40 = .ok (.getfield 22, 3) := by decide +kernel
theorem dX9_addWord_43 : decode cX9_addWord 43 = .ok (.iconst 1, 1) := by decide +kernel
theorem dX9_addWord_44 : decode cX9_addWord 44 = .ok (.iadd, 1) := by decide +kernel
theorem dX9_addWord_45 : decode cX9_addWord 45 = .ok (.putfield 22, 3) := by decide +kernel
theorem dX9_addWord_48 : decode cX9_addWord 48 = .ok (.return_, 1) := by decide +kernel
theorem dX9_copyFrom_0 : decode cX9_copyFrom 0 = .ok (.aload_n 0, 1) := by decide +kernel
theorem dX9_copyFrom_1 : decode cX9_copyFrom 1 = .ok (.aload_n 1, 1) := by decide +kernel
theorem dX9_copyFrom_2 : decode cX9_copyFrom 2 = .ok (.getfield 22, 3) := by decide +kernel
theorem dX9_copyFrom_5 : decode cX9_copyFrom 5 = .ok (.putfield 22, 3) := by decide +kernel
theorem dX9_copyFrom_8 : decode cX9_copyFrom 8 = .ok (.aload_n 0, 1) := by decide +kernel
theorem dX9_copyFrom_9 : decode cX9_copyFrom 9 = .ok (.aload_n 1, 1) := by decide +kernel
theorem dX9_copyFrom_10 : decode cX9_copyFrom 10 = .ok (.getfield 26, 3) := by decide +kernel
theorem dX9_copyFrom_13 : decode cX9_copyFrom 13 = .ok (.putfield 26, 3) := by decide +kernel
theorem dX9_copyFrom_16 : decode cX9_copyFrom 16 = .ok (.aload_n 0, 1) := by decide +kernel
theorem dX9_copyFrom_17 : decode cX9_copyFrom 17 = .ok (.aload_n 1, 1) := by decide +kernel
theorem dX9_copyFrom_18 : decode cX9_copyFrom 18 = .ok (.getfield 29, 3) := by decide +kernel
theorem dX9_copyFrom_21 : decode cX9_copyFrom 21 = .ok (.putfield 29, 3) := by decide +kernel
theorem dX9_copyFrom_24 : decode cX9_copyFrom 24 = .ok (.iconst 0, 1) := by decide +kernel
theorem dX9_copyFrom_25 : decode cX9_copyFrom 25 = .ok (.istore_n 2, 1) := by decide +kernel
theorem dX9_copyFrom_26 : decode cX9_copyFrom 26 = .ok (.iload_n 2, 1) := by decide +kernel
theorem dX9_copyFrom_27 : decode cX9_copyFrom 27 = .ok (.aload_n 0, 1) := by decide +kernel
theorem dX9_copyFrom_28 : decode cX9_copyFrom 28 = .ok (.getfield 22, 3) := by decide +kernel
theorem dX9_copyFrom_31 : decode cX9_copyFrom 31 = .ok (.if_icmp .ge 60, 3) := by decide +kernel
theorem dX9_copyFrom_34 : decode cX9_copyFrom 34 = .ok (.aload_n 0, 1) := by decide +kernel
theorem dX9_copyFrom_35 : decode cX9_copyFrom 35 = .ok (.iload_n 2, 1) := by decide +kernel
theorem dX9_copyFrom_36 : decode cX9_copyFrom 36 = .ok (.invokevirtual 32, 3) := by decide +kernel
theorem dX9_copyFrom_39 : decode cX9_copyFrom 39 = .ok (.getfield 36, 3) := by decide +kernel
theorem dX9_copyFrom_42 : decode cX9_copyFrom 42 = .ok (.aload_n 1, 1) := by decide +kernel
theorem dX9_copyFrom_43 : decode cX9_copyFrom 43 = .ok (.iload_n 2, 1) := by decide +kernel
theorem dX9_copyFrom_44 : decode cX9_copyFrom 44 = .ok (.invokevirtual 32, 3) := by decide +kernel
theorem dX9_copyFrom_47 : decode cX9_copyFrom 47 = .ok (.getfield 36, 3) := by decide +kernel
theorem dX9_copyFrom_50 : decode cX9_copyFrom 50 = .ok (.invokevirtual 52, 3) := by decide +kernel
theorem dX9_copyFrom_53 : decode cX9_copyFrom 53 = .ok (.aload_n 0, 1) := by decide +kernel
theorem dX9_copyFrom_54 : decode cX9_copyFrom 54 = .ok (.iload_n 2, 1) := by decide +kernel
theorem dX9_copyFrom_55 : decode cX9_copyFrom 55 = .ok (.invokevirtual 32, 3) := by decide +kernel
theorem dX9_copyFrom_58 : decode cX9_copyFrom 58 = .ok (.aload_n 1, 1) := by decide +kernel
theorem dX9_copyFrom_59 : decode cX9_copyFrom 59 = .ok (.iload_n 2, 1) := by decide +kernel
theorem dX9_copyFrom_60 : decode cX9_copyFrom 60 = .ok (.invokevirtual 32, 3) := by decide +kernel
theorem dX9_copyFrom_63 : decode cX9_copyFrom 63 = .ok (.getfield 45, 3) := by decide +kernel
theorem dX9_copyFrom_66 : decode cX9_copyFrom 66 = .ok (.putfield 45, 3) := by decide +kernel
theorem dX9_copyFrom_69 : decode cX9_copyFrom 69 = .ok (.aload_n 0, 1) := by decide +kernel
theorem dX9_copyFrom_70 : decode cX9_copyFrom 70 = .ok (.iload_n 2, 1) := by decide +kernel
theorem dX9_copyFrom_71 : decode cX9_copyFrom 71 = .ok (.invokevirtual 32, 3) := by decide +kernel
theorem dX9_copyFrom_74 : decode cX9_copyFrom 74 = .ok (.aload_n 1, 1) := by decide +kernel
theorem dX9_copyFrom_75 : decode cX9_copyFrom 75 = .ok (.iload_n 2, 1) := by decide +kernel
theorem dX9_copyFrom_76 : decode cX9_copyFrom 76 = .ok (.invokevirtual 32, 3) := by decide +kernel
theorem dX9_copyFrom_79 : decode cX9_copyFrom 79 = .ok (.getfield 49, 3) := by decide +kernel
theorem dX9_copyFrom_82 : decode cX9_copyFrom 82 = .ok (.putfield 49, 3) := by decide +kernel
theorem dX9_copyFrom_85 : decode cX9_copyFrom 85 = .ok (.iinc 2 1, 3) := by decide +kernel
theorem dX9_copyFrom_88 : decode cX9_copyFrom 88 = .ok (.goto (-62), 3) := by decide +kernel
theorem dX9_copyFrom_91 : decode cX9_copyFrom 91 = .ok (.return_, 1) := by decide +kernel
theorem dX9_countKept_0 : decode cX9_countKept 0 = .ok (.iconst 0, 1) := by decide +kernel
theorem dX9_countKept_1 : decode cX9_countKept 1 = .ok (.istore_n 1, 1) := by decide +kernel
theorem dX9_countKept_2 : decode cX9_countKept 2 = .ok (.iconst 0, 1) := by decide +kernel
theorem dX9_countKept_3 : decode cX9_countKept 3 = .ok (.istore_n 2, 1) := by decide +kernel
theorem dX9_countKept_4 : decode cX9_countKept 4 = .ok (.iload_n 2, 1) := by decide +kernel
theorem dX9_countKept_5 : decode cX9_countKept 5 = .ok (.aload_n 0, 1) := by decide +kernel
theorem dX9_countKept_6 : decode cX9_countKept 6 = .ok (.getfield 22, 3) := by decide +kernel
theorem dX9_countKept_9 : decode cX9_countKept 9 = .ok (.if_icmp .ge 23, 3) := by decide +kernel
theorem dX9_countKept_12 : decode cX9_countKept 12 = .ok (.aload_n 0, 1) := by decide +kernel
theorem dX9_countKept_13 : decode cX9_countKept 13 = .ok (.iload_n 2, 1) := by decide +kernel
theorem dX9_countKept_14 : decode cX9_countKept 14 = .ok (.invokevirtual 32, 3) := by decide +kernel
theorem dX9_countKept_17 : decode cX9_countKept 17 = .ok (.getfield 45, 3) := by decide +kernel
theorem dX9_countKept_20 : decode cX9_countKept 20 = .ok (.ifCond .ne 6, 3) := by decide +kernel
theorem dX9_countKept_23 : decode cX9_countKept 23 = .ok (.iinc 1 1, 3) := by decide +kernel
theorem dX9_countKept_26 : decode cX9_countKept 26 = .ok (.iinc 2 1, 3) := by decide +kernel
theorem dX9_countKept_29 : decode cX9_countKept 29 = .ok (.goto (-25), 3) := by decide +kernel
theorem dX9_countKept_32 : decode cX9_countKept 32 = .ok (.iload_n 1, 1) := by decide +kernel
theorem dX9_countKept_33 : decode cX9_countKept 33 = .ok (.ireturn, 1) := by decide +kernel
theorem dX9_closestKept_0 : decode cX9_closestKept 0 = .ok (.iconst (-1), 1) := by decide +kernel
theorem dX9_closestKept_1 : decode cX9_closestKept 1 = .ok (.istore_n 2, 1) := by decide +kernel
theorem dX9_closestKept_2 : decode cX9_closestKept 2 = .ok (.iconst 0, 1) := by decide +kernel
theorem dX9_closestKept_3 : decode cX9_closestKept 3 = .ok (.istore_n 3, 1) := by decide +kernel
theorem dX9_closestKept_4 : decode cX9_closestKept 4 = .ok (.iload_n 3, 1) := by decide +kernel
theorem dX9_closestKept_5 : decode cX9_closestKept 5 = .ok (.aload_n 0, 1) := by decide +kernel
theorem dX9_closestKept_6 : decode cX9_closestKept 6 = .ok (.getfield 22, 3) := by decide +kernel
theorem dX9_closestKept_9 : decode cX9_closestKept 9 = .ok (.if_icmp .ge 51, 3) := by decide +kernel
theorem dX9_closestKept_12 : decode cX9_closestKept 12 = .ok (.iload_n 3, 1) := by decide +kernel
theorem dX9_closestKept_13 : decode cX9_closestKept 13 = .ok (.iload_n 1, 1) := by decide +kernel
theorem dX9_closestKept_14 : decode cX9_closestKept 14 = .ok (.if_icmp .eq 40, 3) := by decide +kernel
theorem dX9_closestKept_17 : decode cX9_closestKept 17 = .ok (.aload_n 0, 1) := by decide +kernel
theorem dX9_closestKept_18 : decode cX9_closestKept 18 = .ok (.iload_n 3, 1) := by decide +kernel
theorem dX9_closestKept_19 : decode cX9_closestKept 19 = .ok (.invokevirtual 32, 3) := by decide +kernel
theorem dX9_closestKept_22 : decode cX9_closestKept 22 = .ok (.getfield 45, 3) := by decide +kernel
theorem dX9_closestKept_25 : decode cX9_closestKept 25 = .ok (.ifCond .ne 29, 3) := by decide +kernel
theorem dX9_closestKept_28 : decode cX9_closestKept 28 = .ok (.iload_n 2, 1) := by decide +kernel
theorem dX9_closestKept_29 : decode cX9_closestKept 29 = .ok (.iconst (-1), 1) := by decide +kernel
theorem dX9_closestKept_30 : decode cX9_closestKept 30 = .ok (.if_icmp .eq 22, 3) := by decide +kernel
theorem dX9_closestKept_33 : decode cX9_closestKept 33 = .ok (.aload_n 0, 1) := by decide +kernel
theorem dX9_closestKept_34 : decode cX9_closestKept 34 = .ok (.iload_n 3, 1) := by decide +kernel
theorem dX9_closestKept_35 : decode cX9_closestKept 35 = .ok (.invokevirtual 32, 3) := by decide +kernel
theorem dX9_closestKept_38 : decode cX9_closestKept 38 = .ok (.getfield 49, 3) := by decide +kernel
theorem dX9_closestKept_41 : decode cX9_closestKept 41 = .ok (.aload_n 0, 1) := by decide +kernel
theorem dX9_closestKept_42 : decode cX9_closestKept 42 = .ok (.iload_n 2, 1) := by decide +kernel
theorem dX9_closestKept_43 : decode cX9_closestKept 43 = .ok (.invokevirtual 32, 3) := by decide +kernel
theorem dX9_closestKept_46 : decode cX9_closestKept 46 = .ok (.getfield 49, 3) := by decide +kernel
theorem dX9_closestKept_49 : decode cX9_closestKept 49 = .ok (.if_icmp .ge 5, 3) := by decide +kernel
theorem dX9_closestKept_52 : decode cX9_closestKept 52 = .ok (.iload_n 3, 1) := by decide +kernel
theorem dX9_closestKept_53 : decode cX9_closestKept 53 = .ok (.istore_n 2, 1) := by decide +kernel
theorem dX9_closestKept_54 : decode cX9_closestKept 54 = .ok (.iinc 3 1, 3) := by decide +kernel
theorem dX9_closestKept_57 : decode cX9_closestKept 57 = .ok (.goto (-53), 3) := by decide +kernel
theorem dX9_closestKept_60 : decode cX9_closestKept 60 = .ok (.iload_n 2, 1) := by decide +kernel
theorem dX9_closestKept_61 : decode cX9_closestKept 61 = .ok (.ireturn, 1) := by decide +kernel
theorem dX10_init_0 : decode cX10_init 0 = .ok (.aload_n 0, 1) := by decide +kernel
theorem dX10_init_1 : decode cX10_init 1 = .ok (.invokespecial 3, 3) := by decide +kernel
theorem dX10_init_4 : decode cX10_init 4 = .ok (.aload_n 0, 1) := by decide +kernel
theorem dX10_init_5 : decode cX10_init 5 = .ok (.bipush 25, 2) := by decide +kernel
theorem dX10_init_7 : decode cX10_init 7 = .ok (.newarray .int, 2) := by decide +kernel
theorem dX10_init_9 : decode cX10_init 9 = .ok (.putfield 9, 3) := by decide +kernel
theorem dX10_init_12 : decode cX10_init 12 = .ok (.aload_n 0, 1) := by decide +kernel
theorem dX10_init_13 : decode cX10_init 13 = .ok (.new 15, 3) := by decide +kernel
theorem dX10_init_16 : decode cX10_init 16 = .ok (.dup, 1) := by decide +kernel
theorem dX10_init_17 : decode cX10_init 17 = .ok (.invokespecial 17, 3) := by decide +kernel
theorem dX10_init_20 : decode cX10_init 20 = .ok (.putfield 18, 3) := by decide +kernel
theorem dX10_init_23 : decode cX10_init 23 = .ok (.aload_n 0, 1) := by decide +kernel
theorem dX10_init_24 : decode cX10_init 24 = .ok (.new 15, 3) := by decide +kernel
theorem dX10_init_27 : decode cX10_init 27 = .ok (.dup, 1) := by decide +kernel
theorem dX10_init_28 : decode cX10_init 28 = .ok (.invokespecial 17, 3) := by decide +kernel
theorem dX10_init_31 : decode cX10_init 31 = .ok (.putfield 22, 3) := by decide +kernel
theorem dX10_init_34 : decode cX10_init 34 = .ok (.return_, 1) := by decide +kernel
theorem dX10_distance_0 : decode cX10_distance 0 = .ok (.aload_n 0, 1) := by decide +kernel
theorem dX10_distance_1 : decode cX10_distance 1 = .ok (.aload_n 1, 1) := by decide +kernel
theorem dX10_distance_2 : decode cX10_distance 2 = .ok (.aload_n 2, 1) := by decide +kernel
theorem dX10_distance_3 : decode cX10_distance 3 = .ok (.iload_n 3, 1) := by decide +kernel
theorem dX10_distance_4 : decode cX10_distance 4 = .ok (.iconst 0, 1) := by decide +kernel
theorem dX10_distance_5 : decode cX10_distance 5 = .ok (.invokevirtual 25, 3) := by decide +kernel
theorem dX10_distance_8 : decode cX10_distance 8 = .ok (.bipush 64, 2) := by decide +kernel
theorem dX10_distance_10 : decode cX10_distance 10 = .ok (.idiv, 1) := by decide +kernel
theorem dX10_distance_11 : decode cX10_distance 11 = .ok (.ireturn, 1) := by decide +kernel
theorem dX10_fewestSteps_0 : decode cX10_fewestSteps 0 = .ok (.aload_n 0, 1) := by decide +kernel
theorem dX10_fewestSteps_1 : decode cX10_fewestSteps 1 = .ok (.aload_n 1, 1) := by decide +kernel
theorem dX10_fewestSteps_2 : decode cX10_fewestSteps 2 = .ok (.aload_n 2, 1) := by decide +kernel
theorem dX10_fewestSteps_3 : decode cX10_fewestSteps 3 = .ok (.iload_n 3, 1) := by decide +kernel
theorem dX10_fewestSteps_4 : decode cX10_fewestSteps 4 = .ok (.iconst 0, 1) := by decide +kernel
theorem dX10_fewestSteps_5 : decode cX10_fewestSteps 5 = .ok (.invokevirtual 25, 3) := by decide +kernel
theorem dX10_fewestSteps_8 : decode cX10_fewestSteps 8 = .ok (.bipush 64, 2) := by decide +kernel
theorem dX10_fewestSteps_10 : decode cX10_fewestSteps 10 = .ok (.irem, 1) := by decide +kernel
theorem dX10_fewestSteps_11 : decode cX10_fewestSteps 11 = .ok (.ireturn, 1) := by decide +kernel
theorem dX10_contourDistance_0 : decode cX10_contourDistance 0 = .ok (.aload_n 0, 1) := by decide +kernel
theorem dX10_contourDistance_1 : decode cX10_contourDistance 1 = .ok (.getfield 18, 3) := by decide +kernel
theorem dX10_contourDistance_4 : decode cX10_contourDistance 4 = .ok (.aload_n 1, 1) := by decide +kernel
theorem dX10_contourDistance_5 : decode cX10_contourDistance 5 = .ok (.invokevirtual 29, 3) := by decide +kernel
theorem dX10_contourDistance_8 : decode cX10_contourDistance 8 = .ok (.aload_n 0, 1) := by decide +kernel
theorem dX10_contourDistance_9 : decode cX10_contourDistance 9 = .ok (.getfield 22, 3) := by decide +kernel
theorem dX10_contourDistance_12 : decode cX10_contourDistance 12 = .ok (.aload_n 2, 1) := by decide +kernel
theorem dX10_contourDistance_13 : decode cX10_contourDistance 13 = .ok (.invokevirtual 29, 3) := by decide +kernel
theorem dX10_contourDistance_16 : decode cX10_contourDistance 16 = .ok (.aload_n 0, 1) := by decide +kernel
theorem dX10_contourDistance_17 : decode cX10_contourDistance 17 = .ok (.aload_n 0, 1) := by decide +kernel
theorem dX10_contourDistance_18 : decode cX10_contourDistance 18 = .ok (.getfield 18, 3) := by decide +kernel
theorem dX10_contourDistance_21 : decode cX10_contourDistance 21 = .ok (.aload_n 0, 1) := by decide +kernel
theorem dX10_contourDistance_22 : decode cX10_contourDistance 22 = .ok (.getfield 22, 3) := by decide +kernel
theorem dX10_contourDistance_25 : decode cX10_contourDistance 25 = .ok (.iload_n 3, 1) := by decide +kernel
theorem dX10_contourDistance_26 : decode cX10_contourDistance 26 = .ok (.iconst 1, 1) := by decide +kernel
theorem dX10_contourDistance_27 : decode cX10_contourDistance 27 = .ok (.invokevirtual 25, 3) := by decide +kernel
theorem dX10_contourDistance_30 : decode cX10_contourDistance 30 = .ok (.bipush 64, 2) := by decide +kernel
theorem dX10_contourDistance_32 : decode cX10_contourDistance 32 = .ok (.idiv, 1) := by decide +kernel
theorem dX10_contourDistance_33 : decode cX10_contourDistance 33 = .ok (.ireturn, 1) := by decide +kernel
theorem dX10_lightest_0 : decode cX10_lightest 0 = .ok (.iload_n 3, 1) := by decide +kernel
theorem dX10_lightest_1 : decode cX10_lightest 1 = .ok (.aload_n 1, 1) := by decide +kernel
theorem dX10_lightest_2 : decode cX10_lightest 2 = .ok (.getfield 33, 3) := by decide +kernel
theorem dX10_lightest_5 : decode cX10_lightest 5 = .ok (.aload_n 2, 1) := by decide +kernel
theorem dX10_lightest_6 : decode cX10_lightest 6 = .ok (.getfield 33, 3) := by decide +kernel
theorem dX10_lightest_9 : decode cX10_lightest 9 = .ok (.isub, 1) := by decide +kernel
theorem dX10_lightest_10 : decode cX10_lightest 10 = .ok (.invokestatic 37, 3) := by decide +kernel
theorem dX10_lightest_13 : decode cX10_lightest 13 = .ok (.iadd, 1) := by decide +kernel
theorem dX10_lightest_14 : decode cX10_lightest 14 = .ok (.istore 5, 2) := by decide +kernel
theorem dX10_lightest_16 : decode cX10_lightest 16 = .ok (.aload_n 0, 1) := by decide +kernel
theorem dX10_lightest_17 : decode cX10_lightest 17 = .ok (.getfield 9, 3) := by decide +kernel
theorem dX10_lightest_20 : decode cX10_lightest 20 = .ok (.ldc 43, 2) := by decide +kernel
theorem dX10_lightest_22 : decode cX10_lightest 22 = .ok (.invokestatic 44, 3) := by decide +kernel
theorem dX10_lightest_25 : decode cX10_lightest 25 = .ok (.iconst 0, 1) := by decide +kernel
theorem dX10_lightest_26 : decode cX10_lightest 26 = .ok (.istore 6, 2) := by decide +kernel
theorem dX10_lightest_28 : decode cX10_lightest 28 = .ok (.iload 6, 2) := by decide +kernel
theorem dX10_lightest_30 : decode cX10_lightest 30 = .ok (.aload_n 1, 1) := by decide +kernel
theorem dX10_lightest_31 : decode cX10_lightest 31 = .ok (.getfield 33, 3) := by decide +kernel
theorem dX10_lightest_34 : decode cX10_lightest 34 = .ok (.if_icmp .ge 152, 3) := by decide +kernel
theorem dX10_lightest_37 : decode cX10_lightest 37 = .ok (.iload 6, 2) := by decide +kernel
theorem dX10_lightest_39 : decode cX10_lightest 39 = .ok (.ifCond .ne 7, 3) := by decide +kernel
theorem dX10_lightest_42 : decode cX10_lightest 42 = .ok (.iconst 0, 1) := by decide +kernel
theorem dX10_lightest_43 : decode cX10_lightest 43 = .ok (.goto 5, 3) := by decide +kernel
theorem dX10_lightest_46 : decode cX10_lightest 46 = .ok (.ldc 43, 2) := by decide +kernel
theorem dX10_lightest_48 : decode cX10_lightest 48 = .ok (.istore 7, 2) := by decide +kernel
theorem dX10_lightest_50 : decode cX10_lightest 50 = .ok (.iconst 0, 1) := by decide +kernel
theorem dX10_lightest_51 : decode cX10_lightest 51 = .ok (.istore 8, 2) := by decide +kernel
theorem dX10_lightest_53 : decode cX10_lightest 53 = .ok (.iload 8, 2) := by decide +kernel
theorem dX10_lightest_55 : decode cX10_lightest 55 = .ok (.aload_n 2, 1) := by decide +kernel
theorem dX10_lightest_56 : decode cX10_lightest 56 = .ok (.getfield 33, 3) := by decide +kernel
theorem dX10_lightest_59 : decode cX10_lightest 59 = .ok (.if_icmp .ge 121, 3) := by decide +kernel
theorem dX10_lightest_62 : decode cX10_lightest 62 = .ok (.iload 8, 2) := by decide +kernel
theorem dX10_lightest_64 : decode cX10_lightest 64 = .ok (.aload_n 0, 1) := by decide +kernel
theorem dX10_lightest_65 : decode cX10_lightest 65 = .ok (.getfield 9, 3) := by decide +kernel
theorem dX10_lightest_68 : decode cX10_lightest 68 = .ok (.arraylength, 1) := by decide +kernel
theorem dX10_lightest_69 : decode cX10_lightest 69 = .ok (.iconst 1, 1) := by decide +kernel
theorem dX10_lightest_70 : decode cX10_lightest 70 = .ok (.isub, 1) := by decide +kernel
theorem dX10_lightest_71 : decode cX10_lightest 71 = .ok (.if_icmp .ge 109, 3) := by decide +kernel
theorem dX10_lightest_74 : decode cX10_lightest 74 = .ok (.aload_n 0, 1) := by decide +kernel
theorem dX10_lightest_75 : decode cX10_lightest 75 = .ok (.getfield 9, 3) := by decide +kernel
theorem dX10_lightest_78 : decode cX10_lightest 78 = .ok (.iload 8, 2) := by decide +kernel
theorem dX10_lightest_80 : decode cX10_lightest 80 = .ok (.iconst 1, 1) := by decide +kernel
theorem dX10_lightest_81 : decode cX10_lightest 81 = .ok (.iadd, 1) := by decide +kernel
theorem dX10_lightest_82 : decode cX10_lightest 82 = .ok (.iaload, 1) := by decide +kernel
theorem dX10_lightest_83 : decode cX10_lightest 83 = .ok (.istore 9, 2) := by decide +kernel
theorem dX10_lightest_85 : decode cX10_lightest 85 = .ok (.iload 7, 2) := by decide +kernel
theorem dX10_lightest_87 : decode cX10_lightest 87 = .ok (.iload 9, 2) := by decide +kernel
theorem dX10_lightest_89 : decode cX10_lightest 89 = .ok (.aload_n 0, 1) := by decide +kernel
theorem dX10_lightest_90 : decode cX10_lightest 90 = .ok (.getfield 9, 3) := by decide +kernel
theorem dX10_lightest_93 : decode cX10_lightest 93 = .ok (.iload 8, 2) := by decide +kernel
theorem dX10_lightest_95 : decode cX10_lightest 95 = .ok (.iaload, 1) := by decide +kernel
theorem dX10_lightest_96 : decode cX10_lightest 96 = .ok (.invokestatic 50, 3) := by decide +kernel
theorem dX10_lightest_99 : decode cX10_lightest 99 = .ok (.invokestatic 50, 3) := by decide +kernel
theorem dX10_lightest_102 : decode cX10_lightest 102 = .ok (.istore 10, 2) := by decide +kernel
theorem dX10_lightest_104 : decode cX10_lightest 104 = .ok (.iload 10, 2) := by decide +kernel
theorem dX10_lightest_106 : decode cX10_lightest 106 = .ok (.ldc 43, 2) := by decide +kernel
theorem dX10_lightest_108 : decode cX10_lightest 108 = .ok (.if_icmp .ge 20, 3) := by decide +kernel
theorem dX10_lightest_111 : decode cX10_lightest 111 = .ok (.iload 6, 2) := by decide +kernel
theorem dX10_lightest_113 : decode cX10_lightest 113 = .ok (.iload 8, 2) := by decide +kernel
theorem dX10_lightest_115 : decode cX10_lightest 115 = .ok (.isub, 1) := by decide +kernel
theorem dX10_lightest_116 : decode cX10_lightest 116 = .ok (.invokestatic 37, 3) := by decide +kernel
theorem dX10_lightest_119 : decode cX10_lightest 119 = .ok (.iload 5, 2) := by decide +kernel
theorem dX10_lightest_121 : decode cX10_lightest 121 = .ok (.if_icmp .gt 7, 3) := by decide +kernel
theorem dX10_lightest_124 : decode cX10_lightest 124 = .ok (.iconst 1, 1) := by decide +kernel
theorem dX10_lightest_125 : decode cX10_lightest 125 = .ok (.goto 4, 3) := by decide +kernel
theorem dX10_lightest_128 : decode cX10_lightest 128 = .ok (.iconst 0, 1) := by decide +kernel
theorem dX10_lightest_129 : decode cX10_lightest 129 = .ok (.istore 11, 2) := by decide +kernel
theorem dX10_lightest_131 : decode cX10_lightest 131 = .ok (.aload_n 0, 1) := by decide +kernel
theorem dX10_lightest_132 : decode cX10_lightest 132 = .ok (.getfield 9, 3) := by decide +kernel
theorem dX10_lightest_135 : decode cX10_lightest 135 = .ok (.iload 8, 2) := by decide +kernel
theorem dX10_lightest_137 : decode cX10_lightest 137 = .ok (.iconst 1, 1) := by decide +kernel
theorem dX10_lightest_138 : decode cX10_lightest 138 = .ok (.iadd, 1) := by decide +kernel
theorem dX10_lightest_139 : decode cX10_lightest 139 = .ok (.iload 11, 2) := by decide +kernel
theorem dX10_lightest_141 : decode cX10_lightest 141 = .ok (.ifCond .eq 26, 3) := by decide +kernel
theorem dX10_lightest_144 : decode cX10_lightest 144 = .ok (.iload 10, 2) := by decide +kernel
theorem dX10_lightest_146 : decode cX10_lightest 146 = .ok (.aload_n 1, 1) := by decide +kernel
theorem dX10_lightest_147 : decode cX10_lightest 147 = .ok (.iload 6, 2) := by decide +kernel
theorem dX10_lightest_149 : decode cX10_lightest 149 = .ok (.invokevirtual 54, 3) := by decide +kernel
theorem dX10_lightest_152 : decode cX10_lightest 152 = .ok (.aload_n 2, 1) := by decide +kernel
theorem dX10_lightest_153 : decode cX10_lightest 153 = .ok (.iload 8, 2) := by decide +kernel
theorem dX10_lightest_155 : decode cX10_lightest 155 = .ok (.invokevirtual 54, 3) := by decide +kernel
theorem dX10_lightest_158 : decode cX10_lightest 158 = .ok (.iload 4, 2) := by decide +kernel
theorem dX10_lightest_160 : decode cX10_lightest 160 = .ok (.invokestatic 57, 3) := by decide +kernel
theorem dX10_lightest_163 : decode cX10_lightest 163 = .ok (.iadd, 1) := by decide +kernel
theorem dX10_lightest_164 : decode cX10_lightest 164 = .ok (.goto 5, 3) := by decide +kernel
theorem dX10_lightest_167 : decode cX10_lightest 167 = .ok (.ldc 43, 2) := by decide +kernel
theorem dX10_lightest_169 : decode cX10_lightest 169 = .ok (.iastore, 1) := by decide +kernel
theorem dX10_lightest_170 : decode cX10_lightest 170 = .ok (.iload 9, 2) := by decide +kernel
theorem dX10_lightest_172 : decode cX10_lightest 172 = .ok (.istore 7, 2) := by decide +kernel
theorem dX10_lightest_174 : decode cX10_lightest 174 = .ok (.iinc 8 1, 3) := by decide +kernel
theorem dX10_lightest_177 : decode cX10_lightest 177 = .ok (.goto (-124), 3) := by decide +kernel
theorem dX10_lightest_180 : decode cX10_lightest 180 = .ok (.iinc 6 1, 3) := by decide +kernel
theorem dX10_lightest_183 : decode cX10_lightest 183 = .ok (.goto (-155), 3) := by decide +kernel
theorem dX10_lightest_186 : decode cX10_lightest 186 = .ok (.aload_n 2, 1) := by decide +kernel
theorem dX10_lightest_187 : decode cX10_lightest 187 = .ok (.getfield 33, 3) := by decide +kernel
theorem dX10_lightest_190 : decode cX10_lightest 190 = .ok (.ifCond .lt 27, 3) := by decide +kernel
theorem dX10_lightest_193 : decode cX10_lightest 193 = .ok (.aload_n 2, 1) := by decide +kernel
theorem dX10_lightest_194 : decode cX10_lightest 194 = .ok (.getfield 33, 3) := by decide +kernel
theorem dX10_lightest_197 : decode cX10_lightest 197 = .ok (.aload_n 0, 1) := by decide +kernel
theorem dX10_lightest_198 : decode cX10_lightest 198 = .ok (.getfield 9, 3) := by decide +kernel
theorem dX10_lightest_201 : decode cX10_lightest 201 = .ok (.arraylength, 1) := by decide +kernel
theorem dX10_lightest_202 : decode cX10_lightest 202 = .ok (.if_icmp .ge 15, 3) := by decide +kernel
theorem dX10_lightest_205 : decode cX10_lightest 205 = .ok (.aload_n 0, 1) := by decide +kernel
theorem dX10_lightest_206 : decode cX10_lightest 206 = .ok (.getfield 9, 3) := by decide +kernel
theorem dX10_lightest_209 : decode cX10_lightest 209 = .ok (.aload_n 2, 1) := by decide +kernel
theorem dX10_lightest_210 : decode cX10_lightest 210 = .ok (.getfield 33, 3) := by decide +kernel
theorem dX10_lightest_213 : decode cX10_lightest 213 = .ok (.iaload, 1) := by decide +kernel
theorem dX10_lightest_214 : decode cX10_lightest 214 = .ok (.goto 5, 3) := by decide +kernel
theorem dX10_lightest_217 : decode cX10_lightest 217 = .ok (.ldc 43, 2) := by decide +kernel
theorem dX10_lightest_219 : decode cX10_lightest 219 = .ok (.ireturn, 1) := by decide +kernel
theorem dX10_weight_0 : decode cX10_weight 0 = .ok (.iload_n 0, 1) := by decide +kernel
theorem dX10_weight_1 : decode cX10_weight 1 = .ok (.iload_n 1, 1) := by decide +kernel
theorem dX10_weight_2 : decode cX10_weight 2 = .ok (.if_icmp .ge 9, 3) := by decide +kernel
theorem dX10_weight_5 : decode cX10_weight 5 = .ok (.iload_n 1, 1) := by decide +kernel
theorem dX10_weight_6 : decode cX10_weight 6 = .ok (.iload_n 0, 1) := by decide +kernel
theorem dX10_weight_7 : decode cX10_weight 7 = .ok (.isub, 1) := by decide +kernel
theorem dX10_weight_8 : decode cX10_weight 8 = .ok (.goto 6, 3) := by decide +kernel
theorem dX10_weight_11 : decode cX10_weight 11 = .ok (.iload_n 0, 1) := by decide +kernel
theorem dX10_weight_12 : decode cX10_weight 12 = .ok (.iload_n 1, 1) := by decide +kernel
theorem dX10_weight_13 : decode cX10_weight 13 = .ok (.isub, 1) := by decide +kernel
theorem dX10_weight_14 : decode cX10_weight 14 = .ok (.istore_n 3, 1) := by decide +kernel
theorem dX10_weight_15 : decode cX10_weight 15 = .ok (.iload_n 2, 1) := by decide +kernel
theorem dX10_weight_16 : decode cX10_weight 16 = .ok (.ifCond .eq 17, 3) := by decide +kernel
theorem dX10_weight_19 : decode cX10_weight 19 = .ok (.iload_n 0, 1) := by decide +kernel
theorem dX10_weight_20 : decode cX10_weight 20 = .ok (.iload_n 1, 1) := by decide +kernel
theorem dX10_weight_21 : decode cX10_weight 21 = .ok (.if_icmp .ne 7, 3) := by decide +kernel
theorem dX10_weight_24 : decode cX10_weight 24 = .ok (.iconst 0, 1) := by decide +kernel
theorem dX10_weight_25 : decode cX10_weight 25 = .ok (.goto 4, 3) := by decide +kernel
theorem dX10_weight_28 : decode cX10_weight 28 = .ok (.iconst 1, 1) := by decide +kernel
theorem dX10_weight_29 : decode cX10_weight 29 = .ok (.istore_n 3, 1) := by decide +kernel
theorem dX10_weight_30 : decode cX10_weight 30 = .ok (.goto 19, 3) := by decide +kernel
theorem dX10_weight_33 : decode cX10_weight 33 = .ok (.iload_n 0, 1) := by decide +kernel
theorem dX10_weight_34 : decode cX10_weight 34 = .ok (.iload_n 1, 1) := by decide +kernel
theorem dX10_weight_35 : decode cX10_weight 35 = .ok (.if_icmp .eq 14, 3) := by decide +kernel
theorem dX10_weight_38 : decode cX10_weight 38 = .ok (.iload_n 0, 1) := by decide +kernel
theorem dX10_weight_39 : decode cX10_weight 39 = .ok (.ifCond .eq 7, 3) := by decide +kernel
theorem dX10_weight_42 : decode cX10_weight 42 = .ok (.iload_n 1, 1) := by decide +kernel
theorem dX10_weight_43 : decode cX10_weight 43 = .ok (.ifCond .ne 6, 3) := by decide +kernel
theorem dX10_weight_46 : decode cX10_weight 46 = .ok (.bipush 10, 2) := by decide +kernel
theorem dX10_weight_48 : decode cX10_weight 48 = .ok (.istore_n 3, 1) := by decide +kernel
theorem dX10_weight_49 : decode cX10_weight 49 = .ok (.iload_n 3, 1) := by decide +kernel
theorem dX10_weight_50 : decode cX10_weight 50 = .ok (.bipush 64, 2) := by decide +kernel
theorem dX10_weight_52 : decode cX10_weight 52 = .ok (.imul, 1) := by decide +kernel
theorem dX10_weight_53 : decode cX10_weight 53 = .ok (.iconst 1, 1) := by decide +kernel
theorem dX10_weight_54 : decode cX10_weight 54 = .ok (.iadd, 1) := by decide +kernel
theorem dX10_weight_55 : decode cX10_weight 55 = .ok (.ireturn, 1) := by decide +kernel
theorem dX11_init_0 : decode cX11_init 0 = .ok (.aload_n 0, 1) := by decide +kernel
theorem dX11_init_1 : decode cX11_init 1 = .ok (.invokespecial 3, 3) := by decide +kernel
theorem dX11_init_4 : decode cX11_init 4 = .ok (.aload_n 0, 1) := by decide +kernel
theorem dX11_init_5 : decode cX11_init 5 = .ok (.new 9, 3) := by decide +kernel
theorem dX11_init_8 : decode cX11_init 8 = .ok (.dup, 1) := by decide +kernel
theorem dX11_init_9 : decode cX11_init 9 = .ok (.invokespecial 11, 3) := by decide +kernel
theorem dX11_init_12 : decode cX11_init 12 = .ok (.putfield 12, 3) := by decide +kernel
theorem dX11_init_15 : decode cX11_init 15 = .ok (.aload_n 0, 1) := by decide +kernel
theorem dX11_init_16 : decode cX11_init 16 = .ok (.iconst 0, 1) := by decide +kernel
theorem dX11_init_17 : decode cX11_init 17 = .ok (.putfield 18, 3) := by decide +kernel
theorem dX11_init_20 : decode cX11_init 20 = .ok (.aload_n 0, 1) := by decide +kernel
theorem dX11_init_21 : decode cX11_init 21 = .ok (.sipush 999, 3) := by decide +kernel
theorem dX11_init_24 : decode cX11_init 24 = .ok (.putfield 22, 3) := by decide +kernel
theorem dX11_init_27 : decode cX11_init 27 = .ok (.return_, 1) := by decide +kernel
theorem dX12_init_0 : decode cX12_init 0 = .ok (.aload_n 0, 1) := by decide +kernel
theorem dX12_init_1 : decode cX12_init 1 = .ok (.invokespecial 1, 3) := by decide +kernel
theorem dX12_init_4 : decode cX12_init 4 = .ok (.aload_n 0, 1) := by decide +kernel
theorem dX12_init_5 : decode cX12_init 5 = .ok (.new 7, 3) := by decide +kernel
theorem dX12_init_8 : decode cX12_init 8 = .ok (.dup, 1) := by decide +kernel
theorem dX12_init_9 : decode cX12_init 9 = .ok (.invokespecial 9, 3) := by decide +kernel
theorem dX12_init_12 : decode cX12_init 12 = .ok (.putfield 10, 3) := by decide +kernel
theorem dX12_init_15 : decode cX12_init 15 = .ok (.aload_n 0, 1) := by decide +kernel
theorem dX12_init_16 : decode cX12_init 16 = .ok (.new 16, 3) := by decide +kernel
theorem dX12_init_19 : decode cX12_init 19 = .ok (.dup, 1) := by decide +kernel
theorem dX12_init_20 : decode cX12_init 20 = .ok (.aload_n 0, 1) := by decide +kernel
theorem dX12_init_21 : decode cX12_init 21 = .ok (.getfield 10, 3) := by decide +kernel
theorem dX12_init_24 : decode cX12_init 24 = .ok (.invokespecial 18, 3) := by decide +kernel
theorem dX12_init_27 : decode cX12_init 27 = .ok (.putfield 21, 3) := by decide +kernel
theorem dX12_init_30 : decode cX12_init 30 = .ok (.aload_n 0, 1) := by decide +kernel
theorem dX12_init_31 : decode cX12_init 31 = .ok (.new 25, 3) := by decide +kernel
theorem dX12_init_34 : decode cX12_init 34 = .ok (.dup, 1) := by decide +kernel
theorem dX12_init_35 : decode cX12_init 35 = .ok (.invokespecial 27, 3) := by decide +kernel
theorem dX12_init_38 : decode cX12_init 38 = .ok (.putfield 28, 3) := by decide +kernel
theorem dX12_init_41 : decode cX12_init 41 = .ok (.aload_n 0, 1) := by decide +kernel
theorem dX12_init_42 : decode cX12_init 42 = .ok (.new 32, 3) := by decide +kernel
theorem dX12_init_45 : decode cX12_init 45 = .ok (.dup, 1) := by decide +kernel
theorem dX12_init_46 : decode cX12_init 46 = .ok (.invokespecial 34, 3) := by decide +kernel
theorem dX12_init_49 : decode cX12_init 49 = .ok (.putfield 35, 3) := by decide +kernel
theorem dX12_init_52 : decode cX12_init 52 = .ok (.aload_n 0, 1) := by decide +kernel
theorem dX12_init_53 : decode cX12_init 53 = .ok (.new 32, 3) := by decide +kernel
theorem dX12_init_56 : decode cX12_init 56 = .ok (.dup, 1) := by decide +kernel
theorem dX12_init_57 : decode cX12_init 57 = .ok (.invokespecial 34, 3) := by decide +kernel
theorem dX12_init_60 : decode cX12_init 60 = .ok (.putfield 39, 3) := by decide +kernel
theorem dX12_init_63 : decode cX12_init 63 = .ok (.aload_n 0, 1) := by decide +kernel
theorem dX12_init_64 : decode cX12_init 64 = .ok (.new 42, 3) := by decide +kernel
theorem dX12_init_67 : decode cX12_init 67 = .ok (.dup, 1) := by decide +kernel
theorem dX12_init_68 : decode cX12_init 68 = .ok (.aload_n 0, 1) := by decide +kernel
theorem dX12_init_69 : decode cX12_init 69 = .ok (.getfield 35, 3) := by decide +kernel
theorem dX12_init_72 : decode cX12_init 72 = .ok (.aload_n 0, 1) := by decide +kernel
theorem dX12_init_73 : decode cX12_init 73 = .ok (.getfield 28, 3) := by decide +kernel
theorem dX12_init_76 : decode cX12_init 76 = .ok (.invokespecial 44, 3) := by decide +kernel
theorem dX12_init_79 : decode cX12_init 79 = .ok (.putfield 47, 3) := by decide +kernel
theorem dX12_init_82 : decode cX12_init 82 = .ok (.aload_n 0, 1) := by decide +kernel
theorem dX12_init_83 : decode cX12_init 83 = .ok (.new 51, 3) := by decide +kernel
theorem dX12_init_86 : decode cX12_init 86 = .ok (.dup, 1) := by decide +kernel
theorem dX12_init_87 : decode cX12_init 87 = .ok (.invokespecial 53, 3) := by decide +kernel
theorem dX12_init_90 : decode cX12_init 90 = .ok (.putfield 54, 3) := by decide +kernel
theorem dX12_init_93 : decode cX12_init 93 = .ok (.aload_n 0, 1) := by decide +kernel
theorem dX12_init_94 : decode cX12_init 94 = .ok (.new 58, 3) := by decide +kernel
theorem dX12_init_97 : decode cX12_init 97 = .ok (.dup, 1) := by decide +kernel
theorem dX12_init_98 : decode cX12_init 98 = .ok (.invokespecial 60, 3) := by decide +kernel
theorem dX12_init_101 : decode cX12_init 101 = .ok (.putfield 61, 3) := by decide +kernel
theorem dX12_init_104 : decode cX12_init 104 = .ok (.aload_n 0, 1) := by decide +kernel
theorem dX12_init_105 : decode cX12_init 105 = .ok (.new 51, 3) := by decide +kernel
theorem dX12_init_108 : decode cX12_init 108 = .ok (.dup, 1) := by decide +kernel
theorem dX12_init_109 : decode cX12_init 109 = .ok (.invokespecial 53, 3) := by decide +kernel
theorem dX12_init_112 : decode cX12_init 112 = .ok (.putfield 65, 3) := by decide +kernel
theorem dX12_init_115 : decode cX12_init 115 = .ok (.aload_n 0, 1) := by decide +kernel
theorem dX12_init_116 : decode cX12_init 116 = .ok (.new 58, 3) := by decide +kernel
theorem dX12_init_119 : decode cX12_init 119 = .ok (.dup, 1) := by decide +kernel
theorem dX12_init_120 : decode cX12_init 120 = .ok (.invokespecial 60, 3) := by decide +kernel
theorem dX12_init_123 : decode cX12_init 123 = .ok (.putfield 68, 3) := by decide +kernel
theorem dX12_init_126 : decode cX12_init 126 = .ok (.aload_n 0, 1) := by decide +kernel
theorem dX12_init_127 : decode cX12_init 127 = .ok (.iconst (-1), 1) := by decide +kernel
theorem dX12_init_128 : decode cX12_init 128 = .ok (.putfield 71, 3) := by decide +kernel
theorem dX12_init_131 : decode cX12_init 131 = .ok (.return_, 1) := by decide +kernel
theorem dX12_feed_0 : decode cX12_feed 0 = .ok (.aload_n 0, 1) := by decide +kernel
theorem dX12_feed_1 : decode cX12_feed 1 = .ok (.getfield 10, 3) := by decide +kernel
theorem dX12_feed_4 : decode cX12_feed 4 = .ok (.getfield 75, 3) := by decide +kernel
theorem dX12_feed_7 : decode cX12_feed 7 = .ok (.sipush 1980, 3) := by decide +kernel
theorem dX12_feed_10 : decode cX12_feed 10 = .ok (.if_icmp .le 13, 3) := by decide +kernel
theorem dX12_feed_13 : decode cX12_feed 13 = .ok (.new 78, 3) := by decide +kernel
theorem dX12_feed_16 : decode cX12_feed 16 = .ok (.dup, 1) := by decide +kernel
theorem dX12_feed_17 : decode cX12_feed 17 = .ok (.ldc 80, 2) := by decide +kernel
theorem dX12_feed_19 : decode cX12_feed 19 = .ok (.invokespecial 82, 3) := by decide +kernel
theorem dX12_feed_22 : decode cX12_feed 22 = .ok (.athrow, 1) := by decide +kernel
theorem dX12_feed_23 : decode cX12_feed 23 = .ok (.aload_n 0, 1) := by decide +kernel
theorem dX12_feed_24 : decode cX12_feed 24 = .ok (.getfield 10, 3) := by decide +kernel
theorem dX12_feed_27 : decode cX12_feed 27 = .ok (.iload_n 1, 1) := by decide +kernel
theorem dX12_feed_28 : decode cX12_feed 28 = .ok (.invokevirtual 85, 3) := by decide +kernel
theorem dX12_feed_31 : decode cX12_feed 31 = .ok (.aload_n 0, 1) := by decide +kernel
theorem dX12_feed_32 : decode cX12_feed 32 = .ok (.getfield 10, 3) := by decide +kernel
theorem dX12_feed_35 : decode cX12_feed 35 = .ok (.iload_n 2, 1) := by decide +kernel
theorem dX12_feed_36 : decode cX12_feed 36 = .ok (.invokevirtual 85, 3) := by decide +kernel
theorem dX12_feed_39 : decode cX12_feed 39 = .ok (.aload_n 0, 1) := by decide +kernel
theorem dX12_feed_40 : decode cX12_feed 40 = .ok (.getfield 10, 3) := by decide +kernel
theorem dX12_feed_43 : decode cX12_feed 43 = .ok (.iload_n 3, 1) := by decide +kernel
theorem dX12_feed_44 : decode cX12_feed 44 = .ok (.invokevirtual 85, 3) := by decide +kernel
theorem dX12_feed_47 : decode cX12_feed 47 = .ok (.aload_n 0, 1) := by decide +kernel
theorem dX12_feed_48 : decode cX12_feed 48 = .ok (.getfield 10, 3) := by decide +kernel
theorem dX12_feed_51 : decode cX12_feed 51 = .ok (.iload 4, 2) := by decide +kernel
theorem dX12_feed_53 : decode cX12_feed 53 = .ok (.invokevirtual 85, 3) := by decide +kernel
theorem dX12_feed_56 : decode cX12_feed 56 = .ok (.aload_n 0, 1) := by decide +kernel
theorem dX12_feed_57 : decode cX12_feed 57 = .ok (.getfield 10, 3) := by decide +kernel
theorem dX12_feed_60 : decode cX12_feed 60 = .ok (.iload 5, 2) := by decide +kernel
theorem dX12_feed_62 : decode cX12_feed 62 = .ok (.invokevirtual 85, 3) := by decide +kernel
theorem dX12_feed_65 : decode cX12_feed 65 = .ok (.aload_n 0, 1) := by decide +kernel
theorem dX12_feed_66 : decode cX12_feed 66 = .ok (.getfield 10, 3) := by decide +kernel
theorem dX12_feed_69 : decode cX12_feed 69 = .ok (.getfield 75, 3) := by decide +kernel
theorem dX12_feed_72 : decode cX12_feed 72 = .ok (.ireturn, 1) := by decide +kernel
theorem dX12_trim_0 : decode cX12_trim 0 = .ok (.iload_n 1, 1) := by decide +kernel
theorem dX12_trim_1 : decode cX12_trim 1 = .ok (.ifCond .lt 14, 3) := by decide +kernel
theorem dX12_trim_4 : decode cX12_trim 4 = .ok (.iload_n 1, 1) := by decide +kernel
theorem dX12_trim_5 : decode cX12_trim 5 = .ok (.aload_n 0, 1) := by decide +kernel
theorem dX12_trim_6 : decode cX12_trim 6 = .ok (.getfield 10, 3) := by decide +kernel
theorem dX12_trim_9 : decode cX12_trim 9 = .ok (.getfield 75, 3) := by decide +kernel
theorem dX12_trim_12 : decode cX12_trim 12 = .ok (.if_icmp .le 13, 3) := by decide +kernel
theorem dX12_trim_15 : decode cX12_trim 15 = .ok (.new 89, 3) := by decide +kernel
theorem dX12_trim_18 : decode cX12_trim 18 = .ok (.dup, 1) := by decide +kernel
theorem dX12_trim_19 : decode cX12_trim 19 = .ok (.ldc 91, 2) := by decide +kernel
theorem dX12_trim_21 : decode cX12_trim 21 = .ok (.invokespecial 93, 3) := by decide +kernel
theorem dX12_trim_24 : decode cX12_trim 24 = .ok (.athrow, 1) := by decide +kernel
theorem dX12_trim_25 : decode cX12_trim 25 = .ok (.aload_n 0, 1) := by decide +kernel
theorem dX12_trim_26 : decode cX12_trim 26 = .ok (.getfield 10, 3) := by decide +kernel
theorem dX12_trim_29 : decode cX12_trim 29 = .ok (.iload_n 1, 1) := by decide +kernel
theorem dX12_trim_30 : decode cX12_trim 30 = .ok (.putfield 75, 3) := by decide +kernel
theorem dX12_trim_33 : decode cX12_trim 33 = .ok (.iload_n 1, 1) := by decide +kernel
theorem dX12_trim_34 : decode cX12_trim 34 = .ok (.ireturn, 1) := by decide +kernel
theorem dX12_teach_0 : decode cX12_teach 0 = .ok (.aload_n 0, 1) := by decide +kernel
theorem dX12_teach_1 : decode cX12_teach 1 = .ok (.getfield 21, 3) := by decide +kernel
theorem dX12_teach_4 : decode cX12_teach 4 = .ok (.invokevirtual 94, 3) := by decide +kernel
theorem dX12_teach_7 : decode cX12_teach 7 = .ok (.new 97, 3) := by decide +kernel
theorem dX12_teach_10 : decode cX12_teach 10 = .ok (.dup, 1) := by decide +kernel
theorem dX12_teach_11 : decode cX12_teach 11 = .ok (.aload_n 0, 1) := by decide +kernel
theorem dX12_teach_12 : decode cX12_teach 12 = .ok (.getfield 21, 3) := by decide +kernel
theorem dX12_teach_15 : decode cX12_teach 15 = .ok (.aload_n 0, 1) := by decide +kernel
theorem dX12_teach_16 : decode cX12_teach 16 = .ok (.getfield 65, 3) := by decide +kernel
theorem dX12_teach_19 : decode cX12_teach 19 = .ok (.aload_n 0, 1) := by decide +kernel
theorem dX12_teach_20 : decode cX12_teach 20 = .ok (.getfield 68, 3) := by decide +kernel
theorem dX12_teach_23 : decode cX12_teach 23 = .ok (.invokespecial 99, 3) := by decide +kernel
theorem dX12_teach_26 : decode cX12_teach 26 = .ok (.astore_n 1, 1) := by decide +kernel
theorem dX12_teach_27 : decode cX12_teach 27 = .ok (.aload_n 1, 1) := by decide +kernel
theorem dX12_teach_28 : decode cX12_teach 28 = .ok (.invokevirtual 102, 3) := by decide +kernel
theorem dX12_teach_31 : decode cX12_teach 31 = .ok (.aload_n 0, 1) := by decide +kernel
theorem dX12_teach_32 : decode cX12_teach 32 = .ok (.getfield 10, 3) := by decide +kernel
theorem dX12_teach_35 : decode cX12_teach 35 = .ok (.iconst 0, 1) := by decide +kernel
theorem dX12_teach_36 : decode cX12_teach 36 = .ok (.putfield 75, 3) := by decide +kernel
theorem dX12_teach_39 : decode cX12_teach 39 = .ok (.aload_n 0, 1) := by decide +kernel
theorem dX12_teach_40 : decode cX12_teach 40 = .ok (.aload_n 1, 1) := by decide +kernel
theorem dX12_teach_41 : decode cX12_teach 41 = .ok (.getfield 105, 3) := by decide +kernel
theorem dX12_teach_44 : decode cX12_teach 44 = .ok (.putfield 71, 3) := by decide +kernel
theorem dX12_teach_47 : decode cX12_teach 47 = .ok (.aload_n 1, 1) := by decide +kernel
theorem dX12_teach_48 : decode cX12_teach 48 = .ok (.getfield 108, 3) := by decide +kernel
theorem dX12_teach_51 : decode cX12_teach 51 = .ok (.ifCond .ne 7, 3) := by decide +kernel
theorem dX12_teach_54 : decode cX12_teach 54 = .ok (.aload_n 0, 1) := by decide +kernel
theorem dX12_teach_55 : decode cX12_teach 55 = .ok (.invokevirtual 111, 3) := by decide +kernel
theorem dX12_teach_58 : decode cX12_teach 58 = .ok (.aload_n 1, 1) := by decide +kernel
theorem dX12_teach_59 : decode cX12_teach 59 = .ok (.getfield 108, 3) := by decide +kernel
theorem dX12_teach_62 : decode cX12_teach 62 = .ok (.ireturn, 1) := by decide +kernel
theorem dX12_words_0 : decode cX12_words 0 = .ok (.aload_n 0, 1) := by decide +kernel
theorem dX12_words_1 : decode cX12_words 1 = .ok (.getfield 61, 3) := by decide +kernel
theorem dX12_words_4 : decode cX12_words 4 = .ok (.getfield 114, 3) := by decide +kernel
theorem dX12_words_7 : decode cX12_words 7 = .ok (.ireturn, 1) := by decide +kernel
theorem dX12_keptWords_0 : decode cX12_keptWords 0 = .ok (.aload_n 0, 1) := by decide +kernel
theorem dX12_keptWords_1 : decode cX12_keptWords 1 = .ok (.getfield 61, 3) := by decide +kernel
theorem dX12_keptWords_4 : decode cX12_keptWords 4 = .ok (.invokevirtual 117, 3) := by decide +kernel
theorem dX12_keptWords_7 : decode cX12_keptWords 7 = .ok (.ireturn, 1) := by decide +kernel
theorem dX12_rules_0 : decode cX12_rules 0 = .ok (.aload_n 0, 1) := by decide +kernel
theorem dX12_rules_1 : decode cX12_rules 1 = .ok (.getfield 54, 3) := by decide +kernel
theorem dX12_rules_4 : decode cX12_rules 4 = .ok (.getfield 121, 3) := by decide +kernel
theorem dX12_rules_7 : decode cX12_rules 7 = .ok (.ireturn, 1) := by decide +kernel
theorem dX12_lessons_0 : decode cX12_lessons 0 = .ok (.aload_n 0, 1) := by decide +kernel
theorem dX12_lessons_1 : decode cX12_lessons 1 = .ok (.getfield 61, 3) := by decide +kernel
theorem dX12_lessons_4 : decode cX12_lessons 4 = .ok (.getfield 122, 3) := by decide +kernel
theorem dX12_lessons_7 : decode cX12_lessons 7 = .ok (.ireturn, 1) := by decide +kernel
theorem dX12_rulesCarriedOut_0 : decode cX12_rulesCarriedOut 0 = .ok (.aload_n 0, 1) := by decide +kernel
theorem dX12_rulesCarriedOut_1 : decode cX12_rulesCarriedOut 1 = .ok (.getfield 61, 3) := by decide +kernel
theorem dX12_rulesCarriedOut_4 : decode cX12_rulesCarriedOut 4 = .ok (.getfield 125, 3) := by decide +kernel
theorem dX12_rulesCarriedOut_7 : decode cX12_rulesCarriedOut 7 = .ok (.ireturn, 1) := by decide +kernel
theorem dX12_heardBeats_0 : decode cX12_heardBeats 0 = .ok (.aload_n 0, 1) := by decide +kernel
theorem dX12_heardBeats_1 : decode cX12_heardBeats 1 = .ok (.getfield 35, 3) := by decide +kernel
theorem dX12_heardBeats_4 : decode cX12_heardBeats 4 = .ok (.getfield 128, 3) := by decide +kernel
theorem dX12_heardBeats_7 : decode cX12_heardBeats 7 = .ok (.ireturn, 1) := by decide +kernel
theorem dX12_lengthOf_0 : decode cX12_lengthOf 0 = .ok (.aload_n 0, 1) := by decide +kernel
theorem dX12_lengthOf_1 : decode cX12_lengthOf 1 = .ok (.iload_n 1, 1) := by decide +kernel
theorem dX12_lengthOf_2 : decode cX12_lengthOf 2 = .ok (.invokevirtual 129, 3) := by decide +kernel
theorem dX12_lengthOf_5 : decode cX12_lengthOf 5 = .ok (.aload_n 0, 1) := by decide +kernel
theorem dX12_lengthOf_6 : decode cX12_lengthOf 6 = .ok (.iload_n 1, 1) := by decide +kernel
theorem dX12_lengthOf_7 : decode cX12_lengthOf 7 = .ok (.invokevirtual 132, 3) := by decide +kernel
theorem dX12_lengthOf_10 : decode cX12_lengthOf 10 = .ok (.getfield 128, 3) := by decide +kernel
theorem dX12_lengthOf_13 : decode cX12_lengthOf 13 = .ok (.ireturn, 1) := by decide +kernel
theorem dX12_pitchAt_0 : decode cX12_pitchAt 0 = .ok (.aload_n 0, 1) := by decide +kernel
theorem dX12_pitchAt_1 : decode cX12_pitchAt 1 = .ok (.iload_n 1, 1) := by decide +kernel
theorem dX12_pitchAt_2 : decode cX12_pitchAt 2 = .ok (.invokevirtual 129, 3) := by decide +kernel
theorem dX12_pitchAt_5 : decode cX12_pitchAt 5 = .ok (.aload_n 0, 1) := by decide +kernel
theorem dX12_pitchAt_6 : decode cX12_pitchAt 6 = .ok (.iload_n 1, 1) := by decide +kernel
theorem dX12_pitchAt_7 : decode cX12_pitchAt 7 = .ok (.invokevirtual 132, 3) := by decide +kernel
theorem dX12_pitchAt_10 : decode cX12_pitchAt 10 = .ok (.iload_n 2, 1) := by decide +kernel
theorem dX12_pitchAt_11 : decode cX12_pitchAt 11 = .ok (.invokestatic 136, 3) := by decide +kernel
theorem dX12_pitchAt_14 : decode cX12_pitchAt 14 = .ok (.aload_n 0, 1) := by decide +kernel
theorem dX12_pitchAt_15 : decode cX12_pitchAt 15 = .ok (.iload_n 1, 1) := by decide +kernel
theorem dX12_pitchAt_16 : decode cX12_pitchAt 16 = .ok (.invokevirtual 132, 3) := by decide +kernel
theorem dX12_pitchAt_19 : decode cX12_pitchAt 19 = .ok (.iload_n 2, 1) := by decide +kernel
theorem dX12_pitchAt_20 : decode cX12_pitchAt 20 = .ok (.invokevirtual 140, 3) := by decide +kernel
theorem dX12_pitchAt_23 : decode cX12_pitchAt 23 = .ok (.ireturn, 1) := by decide +kernel
theorem dX12_contourAt_0 : decode cX12_contourAt 0 = .ok (.aload_n 0, 1) := by decide +kernel
theorem dX12_contourAt_1 : decode cX12_contourAt 1 = .ok (.iload_n 1, 1) := by decide +kernel
theorem dX12_contourAt_2 : decode cX12_contourAt 2 = .ok (.invokevirtual 129, 3) := by decide +kernel
theorem dX12_contourAt_5 : decode cX12_contourAt 5 = .ok (.aload_n 0, 1) := by decide +kernel
theorem dX12_contourAt_6 : decode cX12_contourAt 6 = .ok (.iload_n 1, 1) := by decide +kernel
theorem dX12_contourAt_7 : decode cX12_contourAt 7 = .ok (.invokevirtual 132, 3) := by decide +kernel
theorem dX12_contourAt_10 : decode cX12_contourAt 10 = .ok (.iload_n 2, 1) := by decide +kernel
theorem dX12_contourAt_11 : decode cX12_contourAt 11 = .ok (.invokestatic 136, 3) := by decide +kernel
theorem dX12_contourAt_14 : decode cX12_contourAt 14 = .ok (.aload_n 0, 1) := by decide +kernel
theorem dX12_contourAt_15 : decode cX12_contourAt 15 = .ok (.iload_n 1, 1) := by decide +kernel
theorem dX12_contourAt_16 : decode cX12_contourAt 16 = .ok (.invokevirtual 132, 3) := by decide +kernel
theorem dX12_contourAt_19 : decode cX12_contourAt 19 = .ok (.iload_n 2, 1) := by decide +kernel
theorem dX12_contourAt_20 : decode cX12_contourAt 20 = .ok (.invokevirtual 144, 3) := by decide +kernel
theorem dX12_contourAt_23 : decode cX12_contourAt 23 = .ok (.ireturn, 1) := by decide +kernel
theorem dX12_isPruned_0 : decode cX12_isPruned 0 = .ok (.aload_n 0, 1) := by decide +kernel
theorem dX12_isPruned_1 : decode cX12_isPruned 1 = .ok (.iload_n 1, 1) := by decide +kernel
theorem dX12_isPruned_2 : decode cX12_isPruned 2 = .ok (.invokevirtual 129, 3) := by decide +kernel
theorem dX12_isPruned_5 : decode cX12_isPruned 5 = .ok (.aload_n 0, 1) := by decide +kernel
theorem dX12_isPruned_6 : decode cX12_isPruned 6 = .ok (.getfield 61, 3) := by decide +kernel
theorem dX12_isPruned_9 : decode cX12_isPruned 9 = .ok (.iload_n 1, 1) := by decide +kernel
theorem dX12_isPruned_10 : decode cX12_isPruned 10 = .ok (.invokevirtual 147, 3) := by decide +kernel
theorem dX12_isPruned_13 : decode cX12_isPruned 13 = .ok (.getfield 151, 3) := by decide +kernel
theorem dX12_isPruned_16 : decode cX12_isPruned 16 = .ok (.ireturn, 1) := by decide +kernel
theorem dX12_silentBeats_0 : decode cX12_silentBeats 0 = .ok (.aload_n 0, 1) := by decide +kernel
theorem dX12_silentBeats_1 : decode cX12_silentBeats 1 = .ok (.iload_n 1, 1) := by decide +kernel
theorem dX12_silentBeats_2 : decode cX12_silentBeats 2 = .ok (.invokevirtual 129, 3) := by decide +kernel
theorem dX12_silentBeats_5 : decode cX12_silentBeats 5 = .ok (.aload_n 0, 1) := by decide +kernel
theorem dX12_silentBeats_6 : decode cX12_silentBeats 6 = .ok (.iload_n 1, 1) := by decide +kernel
theorem dX12_silentBeats_7 : decode cX12_silentBeats 7 = .ok (.invokevirtual 132, 3) := by decide +kernel
theorem dX12_silentBeats_10 : decode cX12_silentBeats 10 = .ok (.invokevirtual 157, 3) := by decide +kernel
theorem dX12_silentBeats_13 : decode cX12_silentBeats 13 = .ok (.ireturn, 1) := by decide +kernel
theorem dX12_distanceBetween_0 : decode cX12_distanceBetween 0 = .ok (.aload_n 0, 1) := by decide +kernel
theorem dX12_distanceBetween_1 : decode cX12_distanceBetween 1 = .ok (.iload_n 1, 1) := by decide +kernel
theorem dX12_distanceBetween_2 : decode cX12_distanceBetween 2 = .ok (.invokevirtual 129, 3) := by decide +kernel
theorem dX12_distanceBetween_5 : decode cX12_distanceBetween 5 = .ok (.aload_n 0, 1) := by decide +kernel
theorem dX12_distanceBetween_6 : decode cX12_distanceBetween 6 = .ok (.iload_n 2, 1) := by decide +kernel
theorem dX12_distanceBetween_7 : decode cX12_distanceBetween 7 = .ok (.invokevirtual 129, 3) := by decide +kernel
theorem dX12_distanceBetween_10 : decode cX12_distanceBetween 10 = .ok (.aload_n 0, 1) := by decide +kernel
theorem dX12_distanceBetween_11 : decode cX12_distanceBetween 11 = .ok (.iload_n 1, 1) := by decide +kernel
theorem dX12_distanceBetween_12 : decode cX12_distanceBetween 12 = .ok (.iload_n 2, 1) := by decide +kernel
theorem dX12_distanceBetween_13 : decode cX12_distanceBetween 13 = .ok (.invokevirtual 160, 3) := by decide +kernel
theorem dX12_distanceBetween_16 : decode cX12_distanceBetween 16 = .ok (.ireturn, 1) := by decide +kernel
theorem dX12_contourBetween_0 : decode cX12_contourBetween 0 = .ok (.aload_n 0, 1) := by decide +kernel
theorem dX12_contourBetween_1 : decode cX12_contourBetween 1 = .ok (.iload_n 1, 1) := by decide +kernel
theorem dX12_contourBetween_2 : decode cX12_contourBetween 2 = .ok (.invokevirtual 129, 3) := by decide +kernel
theorem dX12_contourBetween_5 : decode cX12_contourBetween 5 = .ok (.aload_n 0, 1) := by decide +kernel
theorem dX12_contourBetween_6 : decode cX12_contourBetween 6 = .ok (.iload_n 2, 1) := by decide +kernel
theorem dX12_contourBetween_7 : decode cX12_contourBetween 7 = .ok (.invokevirtual 129, 3) := by decide +kernel
theorem dX12_contourBetween_10 : decode cX12_contourBetween 10 = .ok (.aload_n 0, 1) := by decide +kernel
theorem dX12_contourBetween_11 : decode cX12_contourBetween 11 = .ok (.getfield 28, 3) := by decide +kernel
theorem dX12_contourBetween_14 : decode cX12_contourBetween 14 = .ok (.aload_n 0, 1) := by decide +kernel
theorem dX12_contourBetween_15 : decode cX12_contourBetween 15 = .ok (.iload_n 1, 1) := by decide +kernel
theorem dX12_contourBetween_16 : decode cX12_contourBetween 16 = .ok (.invokevirtual 132, 3) := by decide +kernel
theorem dX12_contourBetween_19 : decode cX12_contourBetween 19 = .ok (.aload_n 0, 1) := by decide +kernel
theorem dX12_contourBetween_20 : decode cX12_contourBetween 20 = .ok (.iload_n 2, 1) := by decide +kernel
theorem dX12_contourBetween_21 : decode cX12_contourBetween 21 = .ok (.invokevirtual 132, 3) := by decide +kernel
theorem dX12_contourBetween_24 : decode cX12_contourBetween 24 = .ok (.aload_n 0, 1) := by decide +kernel
theorem dX12_contourBetween_25 : decode cX12_contourBetween 25 = .ok (.getfield 54, 3) := by decide +kernel
theorem dX12_contourBetween_28 : decode cX12_contourBetween 28 = .ok (.getfield 164, 3) := by decide +kernel
theorem dX12_contourBetween_31 : decode cX12_contourBetween 31 = .ok (.invokevirtual 167, 3) := by decide +kernel
theorem dX12_contourBetween_34 : decode cX12_contourBetween 34 = .ok (.ireturn, 1) := by decide +kernel
theorem dX12_areNear_0 : decode cX12_areNear 0 = .ok (.aload_n 0, 1) := by decide +kernel
theorem dX12_areNear_1 : decode cX12_areNear 1 = .ok (.iload_n 1, 1) := by decide +kernel
theorem dX12_areNear_2 : decode cX12_areNear 2 = .ok (.invokevirtual 129, 3) := by decide +kernel
theorem dX12_areNear_5 : decode cX12_areNear 5 = .ok (.aload_n 0, 1) := by decide +kernel
theorem dX12_areNear_6 : decode cX12_areNear 6 = .ok (.iload_n 2, 1) := by decide +kernel
theorem dX12_areNear_7 : decode cX12_areNear 7 = .ok (.invokevirtual 129, 3) := by decide +kernel
theorem dX12_areNear_10 : decode cX12_areNear 10 = .ok (.aload_n 0, 1) := by decide +kernel
theorem dX12_areNear_11 : decode cX12_areNear 11 = .ok (.iload_n 1, 1) := by decide +kernel
theorem dX12_areNear_12 : decode cX12_areNear 12 = .ok (.iload_n 2, 1) := by decide +kernel
theorem dX12_areNear_13 : decode cX12_areNear 13 = .ok (.invokevirtual 171, 3) := by decide +kernel
theorem dX12_areNear_16 : decode cX12_areNear 16 = .ok (.ireturn, 1) := by decide +kernel
theorem dX12_nearestTo_0 : decode cX12_nearestTo 0 = .ok (.aload_n 0, 1) := by decide +kernel
theorem dX12_nearestTo_1 : decode cX12_nearestTo 1 = .ok (.iload_n 1, 1) := by decide +kernel
theorem dX12_nearestTo_2 : decode cX12_nearestTo 2 = .ok (.invokevirtual 129, 3) := by decide +kernel
theorem dX12_nearestTo_5 : decode cX12_nearestTo 5 = .ok (.aload_n 0, 1) := by decide +kernel
theorem dX12_nearestTo_6 : decode cX12_nearestTo 6 = .ok (.getfield 61, 3) := by decide +kernel
theorem dX12_nearestTo_9 : decode cX12_nearestTo 9 = .ok (.getfield 114, 3) := by decide +kernel
theorem dX12_nearestTo_12 : decode cX12_nearestTo 12 = .ok (.iconst 2, 1) := by decide +kernel
theorem dX12_nearestTo_13 : decode cX12_nearestTo 13 = .ok (.if_icmp .ge 13, 3) := by decide +kernel
theorem dX12_nearestTo_16 : decode cX12_nearestTo 16 = .ok (.new 78, 3) := by decide +kernel
theorem dX12_nearestTo_19 : decode cX12_nearestTo 19 = .ok (.dup, 1) := by decide +kernel
theorem dX12_nearestTo_20 : decode cX12_nearestTo 20 = .ok (.ldc 175, 2) := by decide +kernel
theorem dX12_nearestTo_22 : decode cX12_nearestTo 22 = .ok (.invokespecial 82, 3) := by decide +kernel
theorem dX12_nearestTo_25 : decode cX12_nearestTo 25 = .ok (.athrow, 1) := by decide +kernel
theorem dX12_nearestTo_26 : decode cX12_nearestTo 26 = .ok (.iconst (-1), 1) := by decide +kernel
theorem dX12_nearestTo_27 : decode cX12_nearestTo 27 = .ok (.istore_n 2, 1) := by decide +kernel
theorem dX12_nearestTo_28 : decode cX12_nearestTo 28 = .ok (.iconst 0, 1) := by decide +kernel
theorem dX12_nearestTo_29 : decode cX12_nearestTo 29 = .ok (.istore_n 3, 1) := by decide +kernel
theorem dX12_nearestTo_30 : decode cX12_nearestTo 30 = .ok (.iconst 0, 1) := by decide +kernel
theorem dX12_nearestTo_31 : decode cX12_nearestTo 31 = .ok (.istore 4, 2) := by decide +kernel
theorem dX12_nearestTo_33 : decode cX12_nearestTo 33 = .ok (.iload 4, 2) := by decide +kernel
theorem dX12_nearestTo_35 : decode cX12_nearestTo 35 = .ok (.aload_n 0, 1) := by decide +kernel
theorem dX12_nearestTo_36 : decode cX12_nearestTo 36 = .ok (.getfield 61, 3) := by decide +kernel
theorem dX12_nearestTo_39 : decode cX12_nearestTo 39 = .ok (.getfield 114, 3) := by decide +kernel
theorem dX12_nearestTo_42 : decode cX12_nearestTo 42 = .ok (.if_icmp .ge 41, 3) := by decide +kernel
theorem dX12_nearestTo_45 : decode cX12_nearestTo 45 = .ok (.iload 4, 2) := by decide +kernel
theorem dX12_nearestTo_47 : decode cX12_nearestTo 47 = .ok (.iload_n 1, 1) := by decide +kernel
theorem dX12_nearestTo_48 : decode cX12_nearestTo 48 = .ok (.if_icmp .eq 29, 3) := by decide +kernel
theorem dX12_nearestTo_51 : decode cX12_nearestTo 51 = .ok (.aload_n 0, 1) := by decide +kernel
theorem dX12_nearestTo_52 : decode cX12_nearestTo 52 = .ok (.iload_n 1, 1) := by decide +kernel
theorem dX12_nearestTo_53 : decode cX12_nearestTo 53 = .ok (.iload 4, 2) := by decide +kernel
theorem dX12_nearestTo_55 : decode cX12_nearestTo 55 = .ok (.invokevirtual 160, 3) := by decide +kernel
theorem dX12_nearestTo_58 : decode cX12_nearestTo 58 = .ok (.istore 5, 2) := by decide +kernel
theorem dX12_nearestTo_60 : decode cX12_nearestTo 60 = .ok (.iload_n 2, 1) := by decide +kernel
theorem dX12_nearestTo_61 : decode cX12_nearestTo 61 = .ok (.iconst (-1), 1) := by decide +kernel
theorem dX12_nearestTo_62 : decode cX12_nearestTo 62 = .ok (.if_icmp .eq 9, 3) := by decide +kernel
theorem dX12_nearestTo_65 : decode cX12_nearestTo 65 = .ok (.iload 5, 2) := by decide +kernel
theorem dX12_nearestTo_67 : decode cX12_nearestTo 67 = .ok (.iload_n 3, 1) := by decide +kernel
theorem dX12_nearestTo_68 : decode cX12_nearestTo 68 = .ok (.if_icmp .ge 9, 3) := by decide +kernel
theorem dX12_nearestTo_71 : decode cX12_nearestTo 71 = .ok (.iload 4, 2) := by decide +kernel
theorem dX12_nearestTo_73 : decode cX12_nearestTo 73 = .ok (.istore_n 2, 1) := by decide +kernel
theorem dX12_nearestTo_74 : decode cX12_nearestTo 74 = .ok (.iload 5, 2) := by decide +kernel
theorem dX12_nearestTo_76 : decode cX12_nearestTo 76 = .ok (.istore_n 3, 1) := by decide +kernel
theorem dX12_nearestTo_77 : decode cX12_nearestTo 77 = .ok (.iinc 4 1, 3) := by decide +kernel
theorem dX12_nearestTo_80 : decode cX12_nearestTo 80 = .ok (.goto (-47), 3) := by decide +kernel
theorem dX12_nearestTo_83 : decode cX12_nearestTo 83 = .ok (.iload_n 2, 1) := by decide +kernel
theorem dX12_nearestTo_84 : decode cX12_nearestTo 84 = .ok (.ireturn, 1) := by decide +kernel
theorem dX12_isNeedless_0 : decode cX12_isNeedless 0 = .ok (.aload_n 0, 1) := by decide +kernel
theorem dX12_isNeedless_1 : decode cX12_isNeedless 1 = .ok (.iload_n 1, 1) := by decide +kernel
theorem dX12_isNeedless_2 : decode cX12_isNeedless 2 = .ok (.invokevirtual 129, 3) := by decide +kernel
theorem dX12_isNeedless_5 : decode cX12_isNeedless 5 = .ok (.aload_n 0, 1) := by decide +kernel
theorem dX12_isNeedless_6 : decode cX12_isNeedless 6 = .ok (.iload_n 1, 1) := by decide +kernel
theorem dX12_isNeedless_7 : decode cX12_isNeedless 7 = .ok (.invokevirtual 177, 3) := by decide +kernel
theorem dX12_isNeedless_10 : decode cX12_isNeedless 10 = .ok (.ireturn, 1) := by decide +kernel
theorem dX12_heardPitch_0 : decode cX12_heardPitch 0 = .ok (.aload_n 0, 1) := by decide +kernel
theorem dX12_heardPitch_1 : decode cX12_heardPitch 1 = .ok (.getfield 35, 3) := by decide +kernel
theorem dX12_heardPitch_4 : decode cX12_heardPitch 4 = .ok (.iload_n 1, 1) := by decide +kernel
theorem dX12_heardPitch_5 : decode cX12_heardPitch 5 = .ok (.invokestatic 136, 3) := by decide +kernel
theorem dX12_heardPitch_8 : decode cX12_heardPitch 8 = .ok (.aload_n 0, 1) := by decide +kernel
theorem dX12_heardPitch_9 : decode cX12_heardPitch 9 = .ok (.getfield 35, 3) := by decide +kernel
theorem dX12_heardPitch_12 : decode cX12_heardPitch 12 = .ok (.iload_n 1, 1) := by decide +kernel
theorem dX12_heardPitch_13 : decode cX12_heardPitch 13 = .ok (.invokevirtual 140, 3) := by decide +kernel
theorem dX12_heardPitch_16 : decode cX12_heardPitch 16 = .ok (.ireturn, 1) := by decide +kernel
theorem dX12_distanceTo_0 : decode cX12_distanceTo 0 = .ok (.aload_n 0, 1) := by decide +kernel
theorem dX12_distanceTo_1 : decode cX12_distanceTo 1 = .ok (.iload_n 1, 1) := by decide +kernel
theorem dX12_distanceTo_2 : decode cX12_distanceTo 2 = .ok (.invokevirtual 129, 3) := by decide +kernel
theorem dX12_distanceTo_5 : decode cX12_distanceTo 5 = .ok (.aload_n 0, 1) := by decide +kernel
theorem dX12_distanceTo_6 : decode cX12_distanceTo 6 = .ok (.invokevirtual 181, 3) := by decide +kernel
theorem dX12_distanceTo_9 : decode cX12_distanceTo 9 = .ok (.aload_n 0, 1) := by decide +kernel
theorem dX12_distanceTo_10 : decode cX12_distanceTo 10 = .ok (.getfield 61, 3) := by decide +kernel
theorem dX12_distanceTo_13 : decode cX12_distanceTo 13 = .ok (.iload_n 1, 1) := by decide +kernel
theorem dX12_distanceTo_14 : decode cX12_distanceTo 14 = .ok (.invokevirtual 147, 3) := by decide +kernel
theorem dX12_distanceTo_17 : decode cX12_distanceTo 17 = .ok (.getfield 184, 3) := by decide +kernel
theorem dX12_distanceTo_20 : decode cX12_distanceTo 20 = .ok (.ireturn, 1) := by decide +kernel
theorem dX12_contourTo_0 : decode cX12_contourTo 0 = .ok (.aload_n 0, 1) := by decide +kernel
theorem dX12_contourTo_1 : decode cX12_contourTo 1 = .ok (.iload_n 1, 1) := by decide +kernel
theorem dX12_contourTo_2 : decode cX12_contourTo 2 = .ok (.invokevirtual 129, 3) := by decide +kernel
theorem dX12_contourTo_5 : decode cX12_contourTo 5 = .ok (.aload_n 0, 1) := by decide +kernel
theorem dX12_contourTo_6 : decode cX12_contourTo 6 = .ok (.invokevirtual 181, 3) := by decide +kernel
theorem dX12_contourTo_9 : decode cX12_contourTo 9 = .ok (.aload_n 0, 1) := by decide +kernel
theorem dX12_contourTo_10 : decode cX12_contourTo 10 = .ok (.getfield 28, 3) := by decide +kernel
theorem dX12_contourTo_13 : decode cX12_contourTo 13 = .ok (.aload_n 0, 1) := by decide +kernel
theorem dX12_contourTo_14 : decode cX12_contourTo 14 = .ok (.iload_n 1, 1) := by decide +kernel
theorem dX12_contourTo_15 : decode cX12_contourTo 15 = .ok (.invokevirtual 132, 3) := by decide +kernel
theorem dX12_contourTo_18 : decode cX12_contourTo 18 = .ok (.aload_n 0, 1) := by decide +kernel
theorem dX12_contourTo_19 : decode cX12_contourTo 19 = .ok (.getfield 35, 3) := by decide +kernel
theorem dX12_contourTo_22 : decode cX12_contourTo 22 = .ok (.aload_n 0, 1) := by decide +kernel
theorem dX12_contourTo_23 : decode cX12_contourTo 23 = .ok (.getfield 54, 3) := by decide +kernel
theorem dX12_contourTo_26 : decode cX12_contourTo 26 = .ok (.getfield 164, 3) := by decide +kernel
theorem dX12_contourTo_29 : decode cX12_contourTo 29 = .ok (.invokevirtual 167, 3) := by decide +kernel
theorem dX12_contourTo_32 : decode cX12_contourTo 32 = .ok (.ireturn, 1) := by decide +kernel
theorem dX12_stepsTo_0 : decode cX12_stepsTo 0 = .ok (.aload_n 0, 1) := by decide +kernel
theorem dX12_stepsTo_1 : decode cX12_stepsTo 1 = .ok (.iload_n 1, 1) := by decide +kernel
theorem dX12_stepsTo_2 : decode cX12_stepsTo 2 = .ok (.invokevirtual 129, 3) := by decide +kernel
theorem dX12_stepsTo_5 : decode cX12_stepsTo 5 = .ok (.aload_n 0, 1) := by decide +kernel
theorem dX12_stepsTo_6 : decode cX12_stepsTo 6 = .ok (.invokevirtual 181, 3) := by decide +kernel
theorem dX12_stepsTo_9 : decode cX12_stepsTo 9 = .ok (.aload_n 0, 1) := by decide +kernel
theorem dX12_stepsTo_10 : decode cX12_stepsTo 10 = .ok (.getfield 28, 3) := by decide +kernel
theorem dX12_stepsTo_13 : decode cX12_stepsTo 13 = .ok (.aload_n 0, 1) := by decide +kernel
theorem dX12_stepsTo_14 : decode cX12_stepsTo 14 = .ok (.iload_n 1, 1) := by decide +kernel
theorem dX12_stepsTo_15 : decode cX12_stepsTo 15 = .ok (.invokevirtual 132, 3) := by decide +kernel
theorem dX12_stepsTo_18 : decode cX12_stepsTo 18 = .ok (.aload_n 0, 1) := by decide +kernel
theorem dX12_stepsTo_19 : decode cX12_stepsTo 19 = .ok (.getfield 35, 3) := by decide +kernel
theorem dX12_stepsTo_22 : decode cX12_stepsTo 22 = .ok (.aload_n 0, 1) := by decide +kernel
theorem dX12_stepsTo_23 : decode cX12_stepsTo 23 = .ok (.getfield 54, 3) := by decide +kernel
theorem dX12_stepsTo_26 : decode cX12_stepsTo 26 = .ok (.getfield 164, 3) := by decide +kernel
theorem dX12_stepsTo_29 : decode cX12_stepsTo 29 = .ok (.invokevirtual 187, 3) := by decide +kernel
theorem dX12_stepsTo_32 : decode cX12_stepsTo 32 = .ok (.ireturn, 1) := by decide +kernel
theorem dX12_meantWord_0 : decode cX12_meantWord 0 = .ok (.aload_n 0, 1) := by decide +kernel
theorem dX12_meantWord_1 : decode cX12_meantWord 1 = .ok (.getfield 47, 3) := by decide +kernel
theorem dX12_meantWord_4 : decode cX12_meantWord 4 = .ok (.aload_n 0, 1) := by decide +kernel
theorem dX12_meantWord_5 : decode cX12_meantWord 5 = .ok (.getfield 61, 3) := by decide +kernel
theorem dX12_meantWord_8 : decode cX12_meantWord 8 = .ok (.invokevirtual 190, 3) := by decide +kernel
theorem dX12_meantWord_11 : decode cX12_meantWord 11 = .ok (.istore_n 1, 1) := by decide +kernel
theorem dX12_meantWord_12 : decode cX12_meantWord 12 = .ok (.iload_n 1, 1) := by decide +kernel
theorem dX12_meantWord_13 : decode cX12_meantWord 13 = .ok (.invokestatic 194, 3) := by decide +kernel
theorem dX12_meantWord_16 : decode cX12_meantWord 16 = .ok (.iload_n 1, 1) := by decide +kernel
theorem dX12_meantWord_17 : decode cX12_meantWord 17 = .ok (.ireturn, 1) := by decide +kernel
theorem dX12_surety_0 : decode cX12_surety 0 = .ok (.aload_n 0, 1) := by decide +kernel
theorem dX12_surety_1 : decode cX12_surety 1 = .ok (.getfield 47, 3) := by decide +kernel
theorem dX12_surety_4 : decode cX12_surety 4 = .ok (.aload_n 0, 1) := by decide +kernel
theorem dX12_surety_5 : decode cX12_surety 5 = .ok (.getfield 61, 3) := by decide +kernel
theorem dX12_surety_8 : decode cX12_surety 8 = .ok (.invokevirtual 190, 3) := by decide +kernel
theorem dX12_surety_11 : decode cX12_surety 11 = .ok (.istore_n 1, 1) := by decide +kernel
theorem dX12_surety_12 : decode cX12_surety 12 = .ok (.iload_n 1, 1) := by decide +kernel
theorem dX12_surety_13 : decode cX12_surety 13 = .ok (.invokestatic 194, 3) := by decide +kernel
theorem dX12_surety_16 : decode cX12_surety 16 = .ok (.aload_n 0, 1) := by decide +kernel
theorem dX12_surety_17 : decode cX12_surety 17 = .ok (.getfield 61, 3) := by decide +kernel
theorem dX12_surety_20 : decode cX12_surety 20 = .ok (.iload_n 1, 1) := by decide +kernel
theorem dX12_surety_21 : decode cX12_surety 21 = .ok (.invokevirtual 197, 3) := by decide +kernel
theorem dX12_surety_24 : decode cX12_surety 24 = .ok (.istore_n 2, 1) := by decide +kernel
theorem dX12_surety_25 : decode cX12_surety 25 = .ok (.iload_n 2, 1) := by decide +kernel
theorem dX12_surety_26 : decode cX12_surety 26 = .ok (.iconst (-1), 1) := by decide +kernel
theorem dX12_surety_27 : decode cX12_surety 27 = .ok (.if_icmp .ne 5, 3) := by decide +kernel
theorem dX12_surety_30 : decode cX12_surety 30 = .ok (.iconst (-1), 1) := by decide +kernel
theorem dX12_surety_31 : decode cX12_surety 31 = .ok (.ireturn, 1) := by decide +kernel
theorem dX12_surety_32 : decode cX12_surety 32 = .ok (.aload_n 0, 1) := by decide +kernel
theorem dX12_surety_33 : decode cX12_surety 33 = .ok (.getfield 61, 3) := by decide +kernel
theorem dX12_surety_36 : decode cX12_surety 36 = .ok (.iload_n 2, 1) := by decide +kernel
theorem dX12_surety_37 : decode cX12_surety 37 = .ok (.invokevirtual 147, 3) := by decide +kernel
theorem dX12_surety_40 : decode cX12_surety 40 = .ok (.getfield 184, 3) := by decide +kernel
theorem dX12_surety_43 : decode cX12_surety 43 = .ok (.aload_n 0, 1) := by decide +kernel
theorem dX12_surety_44 : decode cX12_surety 44 = .ok (.getfield 61, 3) := by decide +kernel
theorem dX12_surety_47 : decode cX12_surety 47 = .ok (.iload_n 1, 1) := by decide +kernel
theorem dX12_surety_48 : decode cX12_surety 48 = .ok (.invokevirtual 147, 3) := by decide +kernel
theorem dX12_surety_51 : decode cX12_surety 51 = .ok (.getfield 184, 3) := by decide +kernel
theorem dX12_surety_54 : decode cX12_surety 54 = .ok (.isub, 1) := by decide +kernel
theorem dX12_surety_55 : decode cX12_surety 55 = .ok (.ireturn, 1) := by decide +kernel
theorem dX12_hear_0 : decode cX12_hear 0 = .ok (.iload_n 1, 1) := by decide +kernel
theorem dX12_hear_1 : decode cX12_hear 1 = .ok (.ifCond .lt 9, 3) := by decide +kernel
theorem dX12_hear_4 : decode cX12_hear 4 = .ok (.iload_n 1, 1) := by decide +kernel
theorem dX12_hear_5 : decode cX12_hear 5 = .ok (.bipush 40, 2) := by decide +kernel
theorem dX12_hear_7 : decode cX12_hear 7 = .ok (.if_icmp .le 13, 3) := by decide +kernel
theorem dX12_hear_10 : decode cX12_hear 10 = .ok (.new 89, 3) := by decide +kernel
theorem dX12_hear_13 : decode cX12_hear 13 = .ok (.dup, 1) := by decide +kernel
theorem dX12_hear_14 : decode cX12_hear 14 = .ok (.ldc 200, 2) := by decide +kernel
theorem dX12_hear_16 : decode cX12_hear 16 = .ok (.invokespecial 93, 3) := by decide +kernel
theorem dX12_hear_19 : decode cX12_hear 19 = .ok (.athrow, 1) := by decide +kernel
theorem dX12_hear_20 : decode cX12_hear 20 = .ok (.aload_n 0, 1) := by decide +kernel
theorem dX12_hear_21 : decode cX12_hear 21 = .ok (.getfield 35, 3) := by decide +kernel
theorem dX12_hear_24 : decode cX12_hear 24 = .ok (.getfield 128, 3) := by decide +kernel
theorem dX12_hear_27 : decode cX12_hear 27 = .ok (.bipush 24, 2) := by decide +kernel
theorem dX12_hear_29 : decode cX12_hear 29 = .ok (.if_icmp .lt 13, 3) := by decide +kernel
theorem dX12_hear_32 : decode cX12_hear 32 = .ok (.new 78, 3) := by decide +kernel
theorem dX12_hear_35 : decode cX12_hear 35 = .ok (.dup, 1) := by decide +kernel
theorem dX12_hear_36 : decode cX12_hear 36 = .ok (.ldc 202, 2) := by decide +kernel
theorem dX12_hear_38 : decode cX12_hear 38 = .ok (.invokespecial 82, 3) := by decide +kernel
theorem dX12_hear_41 : decode cX12_hear 41 = .ok (.athrow, 1) := by decide +kernel
theorem dX12_hear_42 : decode cX12_hear 42 = .ok (.aload_n 0, 1) := by decide +kernel
theorem dX12_hear_43 : decode cX12_hear 43 = .ok (.getfield 35, 3) := by decide +kernel
theorem dX12_hear_46 : decode cX12_hear 46 = .ok (.iload_n 1, 1) := by decide +kernel
theorem dX12_hear_47 : decode cX12_hear 47 = .ok (.invokevirtual 204, 3) := by decide +kernel
theorem dX12_hear_50 : decode cX12_hear 50 = .ok (.aload_n 0, 1) := by decide +kernel
theorem dX12_hear_51 : decode cX12_hear 51 = .ok (.getfield 47, 3) := by decide +kernel
theorem dX12_hear_54 : decode cX12_hear 54 = .ok (.aload_n 0, 1) := by decide +kernel
theorem dX12_hear_55 : decode cX12_hear 55 = .ok (.getfield 54, 3) := by decide +kernel
theorem dX12_hear_58 : decode cX12_hear 58 = .ok (.aload_n 0, 1) := by decide +kernel
theorem dX12_hear_59 : decode cX12_hear 59 = .ok (.getfield 61, 3) := by decide +kernel
theorem dX12_hear_62 : decode cX12_hear 62 = .ok (.invokevirtual 207, 3) := by decide +kernel
theorem dX12_hear_65 : decode cX12_hear 65 = .ok (.aload_n 0, 1) := by decide +kernel
theorem dX12_hear_66 : decode cX12_hear 66 = .ok (.getfield 35, 3) := by decide +kernel
theorem dX12_hear_69 : decode cX12_hear 69 = .ok (.getfield 128, 3) := by decide +kernel
theorem dX12_hear_72 : decode cX12_hear 72 = .ok (.ireturn, 1) := by decide +kernel
theorem dX12_hearWord_0 : decode cX12_hearWord 0 = .ok (.aload_n 0, 1) := by decide +kernel
theorem dX12_hearWord_1 : decode cX12_hearWord 1 = .ok (.iload_n 1, 1) := by decide +kernel
theorem dX12_hearWord_2 : decode cX12_hearWord 2 = .ok (.invokevirtual 129, 3) := by decide +kernel
theorem dX12_hearWord_5 : decode cX12_hearWord 5 = .ok (.iload_n 2, 1) := by decide +kernel
theorem dX12_hearWord_6 : decode cX12_hearWord 6 = .ok (.bipush (-39), 2) := by decide +kernel
theorem dX12_hearWord_8 : decode cX12_hearWord 8 = .ok (.if_icmp .lt 9, 3) := by decide +kernel
theorem dX12_hearWord_11 : decode cX12_hearWord 11 = .ok (.iload_n 2, 1) := by decide +kernel
theorem dX12_hearWord_12 : decode cX12_hearWord 12 = .ok (.bipush 39, 2) := by decide +kernel
theorem dX12_hearWord_14 : decode cX12_hearWord 14 = .ok (.if_icmp .le 13, 3) := by decide +kernel
theorem dX12_hearWord_17 : decode cX12_hearWord 17 = .ok (.new 89, 3) := by decide +kernel
theorem dX12_hearWord_20 : decode cX12_hearWord 20 = .ok (.dup, 1) := by decide +kernel
theorem dX12_hearWord_21 : decode cX12_hearWord 21 = .ok (.ldc 211, 2) := by decide +kernel
theorem dX12_hearWord_23 : decode cX12_hearWord 23 = .ok (.invokespecial 93, 3) := by decide +kernel
theorem dX12_hearWord_26 : decode cX12_hearWord 26 = .ok (.athrow, 1) := by decide +kernel
theorem dX12_hearWord_27 : decode cX12_hearWord 27 = .ok (.aload_n 0, 1) := by decide +kernel
theorem dX12_hearWord_28 : decode cX12_hearWord 28 = .ok (.getfield 35, 3) := by decide +kernel
theorem dX12_hearWord_31 : decode cX12_hearWord 31 = .ok (.aload_n 0, 1) := by decide +kernel
theorem dX12_hearWord_32 : decode cX12_hearWord 32 = .ok (.iload_n 1, 1) := by decide +kernel
theorem dX12_hearWord_33 : decode cX12_hearWord 33 = .ok (.invokevirtual 132, 3) := by decide +kernel
theorem dX12_hearWord_36 : decode cX12_hearWord 36 = .ok (.invokevirtual 213, 3) := by decide +kernel
theorem dX12_hearWord_39 : decode cX12_hearWord 39 = .ok (.aload_n 0, 1) := by decide +kernel
theorem dX12_hearWord_40 : decode cX12_hearWord 40 = .ok (.getfield 35, 3) := by decide +kernel
theorem dX12_hearWord_43 : decode cX12_hearWord 43 = .ok (.iload_n 2, 1) := by decide +kernel
theorem dX12_hearWord_44 : decode cX12_hearWord 44 = .ok (.invokevirtual 217, 3) := by decide +kernel
theorem dX12_hearWord_47 : decode cX12_hearWord 47 = .ok (.pop, 1) := by decide +kernel
theorem dX12_hearWord_48 : decode cX12_hearWord 48 = .ok (.aload_n 0, 1) := by decide +kernel
theorem dX12_hearWord_49 : decode cX12_hearWord 49 = .ok (.getfield 47, 3) := by decide +kernel
theorem dX12_hearWord_52 : decode cX12_hearWord 52 = .ok (.aload_n 0, 1) := by decide +kernel
theorem dX12_hearWord_53 : decode cX12_hearWord 53 = .ok (.getfield 54, 3) := by decide +kernel
theorem dX12_hearWord_56 : decode cX12_hearWord 56 = .ok (.aload_n 0, 1) := by decide +kernel
theorem dX12_hearWord_57 : decode cX12_hearWord 57 = .ok (.getfield 61, 3) := by decide +kernel
theorem dX12_hearWord_60 : decode cX12_hearWord 60 = .ok (.invokevirtual 207, 3) := by decide +kernel
theorem dX12_hearWord_63 : decode cX12_hearWord 63 = .ok (.aload_n 0, 1) := by decide +kernel
theorem dX12_hearWord_64 : decode cX12_hearWord 64 = .ok (.getfield 35, 3) := by decide +kernel
theorem dX12_hearWord_67 : decode cX12_hearWord 67 = .ok (.getfield 128, 3) := by decide +kernel
theorem dX12_hearWord_70 : decode cX12_hearWord 70 = .ok (.ireturn, 1) := by decide +kernel
theorem dX12_forget_0 : decode cX12_forget 0 = .ok (.aload_n 0, 1) := by decide +kernel
theorem dX12_forget_1 : decode cX12_forget 1 = .ok (.getfield 35, 3) := by decide +kernel
theorem dX12_forget_4 : decode cX12_forget 4 = .ok (.getfield 128, 3) := by decide +kernel
theorem dX12_forget_7 : decode cX12_forget 7 = .ok (.istore_n 1, 1) := by decide +kernel
theorem dX12_forget_8 : decode cX12_forget 8 = .ok (.aload_n 0, 1) := by decide +kernel
theorem dX12_forget_9 : decode cX12_forget 9 = .ok (.getfield 35, 3) := by decide +kernel
theorem dX12_forget_12 : decode cX12_forget 12 = .ok (.iconst 0, 1) := by decide +kernel
theorem dX12_forget_13 : decode cX12_forget 13 = .ok (.putfield 128, 3) := by decide +kernel
theorem dX12_forget_16 : decode cX12_forget 16 = .ok (.aload_n 0, 1) := by decide +kernel
theorem dX12_forget_17 : decode cX12_forget 17 = .ok (.getfield 47, 3) := by decide +kernel
theorem dX12_forget_20 : decode cX12_forget 20 = .ok (.aload_n 0, 1) := by decide +kernel
theorem dX12_forget_21 : decode cX12_forget 21 = .ok (.getfield 54, 3) := by decide +kernel
theorem dX12_forget_24 : decode cX12_forget 24 = .ok (.aload_n 0, 1) := by decide +kernel
theorem dX12_forget_25 : decode cX12_forget 25 = .ok (.getfield 61, 3) := by decide +kernel
theorem dX12_forget_28 : decode cX12_forget 28 = .ok (.invokevirtual 207, 3) := by decide +kernel
theorem dX12_forget_31 : decode cX12_forget 31 = .ok (.iload_n 1, 1) := by decide +kernel
theorem dX12_forget_32 : decode cX12_forget 32 = .ok (.ireturn, 1) := by decide +kernel
theorem dX12_turnPruned_0 : decode cX12_turnPruned 0 = .ok (.aload_n 0, 1) := by decide +kernel
theorem dX12_turnPruned_1 : decode cX12_turnPruned 1 = .ok (.iload_n 1, 1) := by decide +kernel
theorem dX12_turnPruned_2 : decode cX12_turnPruned 2 = .ok (.invokevirtual 129, 3) := by decide +kernel
theorem dX12_turnPruned_5 : decode cX12_turnPruned 5 = .ok (.aload_n 0, 1) := by decide +kernel
theorem dX12_turnPruned_6 : decode cX12_turnPruned 6 = .ok (.getfield 61, 3) := by decide +kernel
theorem dX12_turnPruned_9 : decode cX12_turnPruned 9 = .ok (.iload_n 1, 1) := by decide +kernel
theorem dX12_turnPruned_10 : decode cX12_turnPruned 10 = .ok (.invokevirtual 147, 3) := by decide +kernel
theorem dX12_turnPruned_13 : decode cX12_turnPruned 13 = .ok (.astore_n 2, 1) := by decide +kernel
theorem dX12_turnPruned_14 : decode cX12_turnPruned 14 = .ok (.aload_n 2, 1) := by decide +kernel
theorem dX12_turnPruned_15 : decode cX12_turnPruned 15 = .ok (.aload_n 2, 1) := by decide +kernel
theorem dX12_turnPruned_16 : decode cX12_turnPruned 16 = .ok (.getfield 151, 3) := by decide +kernel
theorem dX12_turnPruned_19 : decode cX12_turnPruned 19 = .ok (.ifCond .ne 7, 3) := by decide +kernel
theorem dX12_turnPruned_22 : decode cX12_turnPruned 22 = .ok (.iconst 1, 1) := by decide +kernel
theorem dX12_turnPruned_23 : decode cX12_turnPruned 23 = .ok (.goto 4, 3) := by decide +kernel
theorem dX12_turnPruned_26 : decode cX12_turnPruned 26 = .ok (.iconst 0, 1) := by decide +kernel
theorem dX12_turnPruned_27 : decode cX12_turnPruned 27 = .ok (.putfield 151, 3) := by decide +kernel
theorem dX12_turnPruned_30 : decode cX12_turnPruned 30 = .ok (.aload_n 2, 1) := by decide +kernel
theorem dX12_turnPruned_31 : decode cX12_turnPruned 31 = .ok (.getfield 151, 3) := by decide +kernel
theorem dX12_turnPruned_34 : decode cX12_turnPruned 34 = .ok (.ireturn, 1) := by decide +kernel
theorem dX12_pruneNeedless_0 : decode cX12_pruneNeedless 0 = .ok (.iconst 0, 1) := by decide +kernel
theorem dX12_pruneNeedless_1 : decode cX12_pruneNeedless 1 = .ok (.istore_n 1, 1) := by decide +kernel
theorem dX12_pruneNeedless_2 : decode cX12_pruneNeedless 2 = .ok (.iconst 0, 1) := by decide +kernel
theorem dX12_pruneNeedless_3 : decode cX12_pruneNeedless 3 = .ok (.istore_n 2, 1) := by decide +kernel
theorem dX12_pruneNeedless_4 : decode cX12_pruneNeedless 4 = .ok (.iload_n 2, 1) := by decide +kernel
theorem dX12_pruneNeedless_5 : decode cX12_pruneNeedless 5 = .ok (.aload_n 0, 1) := by decide +kernel
theorem dX12_pruneNeedless_6 : decode cX12_pruneNeedless 6 = .ok (.getfield 61, 3) := by decide +kernel
theorem dX12_pruneNeedless_9 : decode cX12_pruneNeedless 9 = .ok (.getfield 114, 3) := by decide +kernel
theorem dX12_pruneNeedless_12 : decode cX12_pruneNeedless 12 = .ok (.if_icmp .ge 32, 3) := by decide +kernel
theorem dX12_pruneNeedless_15 : decode cX12_pruneNeedless 15 = .ok (.aload_n 0, 1) := by decide +kernel
theorem dX12_pruneNeedless_16 : decode cX12_pruneNeedless 16 = .ok (.iload_n 2, 1) := by decide +kernel
theorem dX12_pruneNeedless_17 : decode cX12_pruneNeedless 17 = .ok (.invokevirtual 177, 3) := by decide +kernel
theorem dX12_pruneNeedless_20 : decode cX12_pruneNeedless 20 = .ok (.ifCond .eq 18, 3) := by decide +kernel
theorem dX12_pruneNeedless_23 : decode cX12_pruneNeedless 23 = .ok (.aload_n 0, 1) := by decide +kernel
theorem dX12_pruneNeedless_24 : decode cX12_pruneNeedless 24 = .ok (.getfield 61, 3) := by decide +kernel
theorem dX12_pruneNeedless_27 : decode cX12_pruneNeedless 27 = .ok (.iload_n 2, 1) := by decide +kernel
theorem dX12_pruneNeedless_28 : decode cX12_pruneNeedless 28 = .ok (.invokevirtual 147, 3) := by decide +kernel
theorem dX12_pruneNeedless_31 : decode cX12_pruneNeedless 31 = .ok (.iconst 1, 1) := by decide +kernel
theorem dX12_pruneNeedless_32 : decode cX12_pruneNeedless 32 = .ok (.putfield 151, 3) := by decide +kernel
theorem dX12_pruneNeedless_35 : decode cX12_pruneNeedless 35 = .ok (.iinc 1 1, 3) := by decide +kernel
theorem dX12_pruneNeedless_38 : decode cX12_pruneNeedless 38 = .ok (.iinc 2 1, 3) := by decide +kernel
theorem dX12_pruneNeedless_41 : decode cX12_pruneNeedless 41 = .ok (.goto (-37), 3) := by decide +kernel
theorem dX12_pruneNeedless_44 : decode cX12_pruneNeedless 44 = .ok (.iload_n 1, 1) := by decide +kernel
theorem dX12_pruneNeedless_45 : decode cX12_pruneNeedless 45 = .ok (.ireturn, 1) := by decide +kernel
theorem dX12_passLessons_0 : decode cX12_passLessons 0 = .ok (.iload_n 1, 1) := by decide +kernel
theorem dX12_passLessons_1 : decode cX12_passLessons 1 = .ok (.invokestatic 220, 3) := by decide +kernel
theorem dX12_passLessons_4 : decode cX12_passLessons 4 = .ok (.iconst 0, 1) := by decide +kernel
theorem dX12_passLessons_5 : decode cX12_passLessons 5 = .ok (.istore_n 2, 1) := by decide +kernel
theorem dX12_passLessons_6 : decode cX12_passLessons 6 = .ok (.iconst 0, 1) := by decide +kernel
theorem dX12_passLessons_7 : decode cX12_passLessons 7 = .ok (.istore_n 3, 1) := by decide +kernel
theorem dX12_passLessons_8 : decode cX12_passLessons 8 = .ok (.iload_n 3, 1) := by decide +kernel
theorem dX12_passLessons_9 : decode cX12_passLessons 9 = .ok (.iload_n 1, 1) := by decide +kernel
theorem dX12_passLessons_10 : decode cX12_passLessons 10 = .ok (.if_icmp .ge 27, 3) := by decide +kernel
theorem dX12_passLessons_13 : decode cX12_passLessons 13 = .ok (.iload_n 2, 1) := by decide +kernel
theorem dX12_passLessons_14 : decode cX12_passLessons 14 = .ok (.aload_n 0, 1) := by decide +kernel
theorem dX12_passLessons_15 : decode cX12_passLessons 15 = .ok (.getfield 47, 3) := by decide +kernel
theorem dX12_passLessons_18 : decode cX12_passLessons 18 = .ok (.aload_n 0, 1) := by decide +kernel
theorem dX12_passLessons_19 : decode cX12_passLessons 19 = .ok (.getfield 54, 3) := by decide +kernel
theorem dX12_passLessons_22 : decode cX12_passLessons 22 = .ok (.aload_n 0, 1) := by decide +kernel
theorem dX12_passLessons_23 : decode cX12_passLessons 23 = .ok (.getfield 61, 3) := by decide +kernel
theorem dX12_passLessons_26 : decode cX12_passLessons 26 = .ok (.invokevirtual 223, 3) := by decide +kernel
theorem dX12_passLessons_29 : decode cX12_passLessons 29 = .ok (.iadd, 1) := by decide +kernel
theorem dX12_passLessons_30 : decode cX12_passLessons 30 = .ok (.istore_n 2, 1) := by decide +kernel
theorem dX12_passLessons_31 : decode cX12_passLessons 31 = .ok (.iinc 3 1, 3) := by decide +kernel
theorem dX12_passLessons_34 : decode cX12_passLessons 34 = .ok (.goto (-26), 3) := by decide +kernel
theorem dX12_passLessons_37 : decode cX12_passLessons 37 = .ok (.iload_n 2, 1) := by decide +kernel
theorem dX12_passLessons_38 : decode cX12_passLessons 38 = .ok (.ireturn, 1) := by decide +kernel
theorem dX12_keptAfter_0 : decode cX12_keptAfter 0 = .ok (.iload_n 1, 1) := by decide +kernel
theorem dX12_keptAfter_1 : decode cX12_keptAfter 1 = .ok (.invokestatic 220, 3) := by decide +kernel
theorem dX12_keptAfter_4 : decode cX12_keptAfter 4 = .ok (.aload_n 0, 1) := by decide +kernel
theorem dX12_keptAfter_5 : decode cX12_keptAfter 5 = .ok (.getfield 68, 3) := by decide +kernel
theorem dX12_keptAfter_8 : decode cX12_keptAfter 8 = .ok (.aload_n 0, 1) := by decide +kernel
theorem dX12_keptAfter_9 : decode cX12_keptAfter 9 = .ok (.getfield 61, 3) := by decide +kernel
theorem dX12_keptAfter_12 : decode cX12_keptAfter 12 = .ok (.invokevirtual 227, 3) := by decide +kernel
theorem dX12_keptAfter_15 : decode cX12_keptAfter 15 = .ok (.iconst 0, 1) := by decide +kernel
theorem dX12_keptAfter_16 : decode cX12_keptAfter 16 = .ok (.istore_n 2, 1) := by decide +kernel
theorem dX12_keptAfter_17 : decode cX12_keptAfter 17 = .ok (.iload_n 2, 1) := by decide +kernel
theorem dX12_keptAfter_18 : decode cX12_keptAfter 18 = .ok (.iload_n 1, 1) := by decide +kernel
theorem dX12_keptAfter_19 : decode cX12_keptAfter 19 = .ok (.if_icmp .ge 25, 3) := by decide +kernel
theorem dX12_keptAfter_22 : decode cX12_keptAfter 22 = .ok (.aload_n 0, 1) := by decide +kernel
theorem dX12_keptAfter_23 : decode cX12_keptAfter 23 = .ok (.getfield 47, 3) := by decide +kernel
theorem dX12_keptAfter_26 : decode cX12_keptAfter 26 = .ok (.aload_n 0, 1) := by decide +kernel
theorem dX12_keptAfter_27 : decode cX12_keptAfter 27 = .ok (.getfield 54, 3) := by decide +kernel
theorem dX12_keptAfter_30 : decode cX12_keptAfter 30 = .ok (.aload_n 0, 1) := by decide +kernel
theorem dX12_keptAfter_31 : decode cX12_keptAfter 31 = .ok (.getfield 68, 3) := by decide +kernel
theorem dX12_keptAfter_34 : decode cX12_keptAfter 34 = .ok (.invokevirtual 223, 3) := by decide +kernel
theorem dX12_keptAfter_37 : decode cX12_keptAfter 37 = .ok (.pop, 1) := by decide +kernel
theorem dX12_keptAfter_38 : decode cX12_keptAfter 38 = .ok (.iinc 2 1, 3) := by decide +kernel
theorem dX12_keptAfter_41 : decode cX12_keptAfter 41 = .ok (.goto (-24), 3) := by decide +kernel
theorem dX12_keptAfter_44 : decode cX12_keptAfter 44 = .ok (.aload_n 0, 1) := by decide +kernel
theorem dX12_keptAfter_45 : decode cX12_keptAfter 45 = .ok (.getfield 68, 3) := by decide +kernel
theorem dX12_keptAfter_48 : decode cX12_keptAfter 48 = .ok (.invokevirtual 117, 3) := by decide +kernel
theorem dX12_keptAfter_51 : decode cX12_keptAfter 51 = .ok (.ireturn, 1) := by decide +kernel
theorem dX12_lessonsUntilMeant_0 : decode cX12_lessonsUntilMeant 0 = .ok (.aload_n 0, 1) := by decide +kernel
theorem dX12_lessonsUntilMeant_1 : decode cX12_lessonsUntilMeant 1 = .ok (.iload_n 1, 1) := by decide +kernel
theorem dX12_lessonsUntilMeant_2 : decode cX12_lessonsUntilMeant 2 = .ok (.invokevirtual 129, 3) := by decide +kernel
theorem dX12_lessonsUntilMeant_5 : decode cX12_lessonsUntilMeant 5 = .ok (.aload_n 0, 1) := by decide +kernel
theorem dX12_lessonsUntilMeant_6 : decode cX12_lessonsUntilMeant 6 = .ok (.getfield 68, 3) := by decide +kernel
theorem dX12_lessonsUntilMeant_9 : decode cX12_lessonsUntilMeant 9 = .ok (.aload_n 0, 1) := by decide +kernel
theorem dX12_lessonsUntilMeant_10 : decode cX12_lessonsUntilMeant 10 = .ok (.getfield 61, 3) := by decide +kernel
theorem dX12_lessonsUntilMeant_13 : decode cX12_lessonsUntilMeant 13 = .ok (.invokevirtual 227, 3) := by decide +kernel
theorem dX12_lessonsUntilMeant_16 : decode cX12_lessonsUntilMeant 16 = .ok (.iconst 0, 1) := by decide +kernel
theorem dX12_lessonsUntilMeant_17 : decode cX12_lessonsUntilMeant 17 = .ok (.istore_n 2, 1) := by decide +kernel
theorem dX12_lessonsUntilMeant_18 : decode cX12_lessonsUntilMeant 18 = .ok (.iload_n 2, 1) := by decide +kernel
theorem dX12_lessonsUntilMeant_19 : decode cX12_lessonsUntilMeant 19 = .ok (.bipush 20, 2) := by decide +kernel
theorem dX12_lessonsUntilMeant_21 : decode cX12_lessonsUntilMeant 21 = .ok (.if_icmp .gt 42, 3) := by decide +kernel
theorem dX12_lessonsUntilMeant_24 : decode cX12_lessonsUntilMeant 24 = .ok (.aload_n 0, 1) := by decide +kernel
theorem dX12_lessonsUntilMeant_25 : decode cX12_lessonsUntilMeant 25 = .ok (.getfield 47, 3) := by decide +kernel
theorem dX12_lessonsUntilMeant_28 : decode cX12_lessonsUntilMeant 28 = .ok (.aload_n 0, 1) := by decide +kernel
theorem dX12_lessonsUntilMeant_29 : decode cX12_lessonsUntilMeant 29 = .ok (.getfield 68, 3) := by decide +kernel
theorem dX12_lessonsUntilMeant_32 : decode cX12_lessonsUntilMeant 32 = .ok (.invokevirtual 190, 3) := by decide +kernel
theorem dX12_lessonsUntilMeant_35 : decode cX12_lessonsUntilMeant 35 = .ok (.iload_n 1, 1) := by decide +kernel
theorem dX12_lessonsUntilMeant_36 : decode cX12_lessonsUntilMeant 36 = .ok (.if_icmp .ne 5, 3) := by decide +kernel
theorem dX12_lessonsUntilMeant_39 : decode cX12_lessonsUntilMeant 39 = .ok (.iload_n 2, 1) := by decide +kernel
theorem dX12_lessonsUntilMeant_40 : decode cX12_lessonsUntilMeant 40 = .ok (.ireturn, 1) := by decide +kernel
theorem dX12_lessonsUntilMeant_41 : decode cX12_lessonsUntilMeant 41 = .ok (.aload_n 0, 1) := by decide +kernel
theorem dX12_lessonsUntilMeant_42 : decode cX12_lessonsUntilMeant 42 = .ok (.getfield 47, 3) := by decide +kernel
theorem dX12_lessonsUntilMeant_45 : decode cX12_lessonsUntilMeant 45 = .ok (.aload_n 0, 1) := by decide +kernel
theorem dX12_lessonsUntilMeant_46 : decode cX12_lessonsUntilMeant 46 = .ok (.getfield 54, 3) := by decide +kernel
theorem dX12_lessonsUntilMeant_49 : decode cX12_lessonsUntilMeant 49 = .ok (.aload_n 0, 1) := by decide +kernel
theorem dX12_lessonsUntilMeant_50 : decode cX12_lessonsUntilMeant 50 = .ok (.getfield 68, 3) := by decide +kernel
theorem dX12_lessonsUntilMeant_53 : decode cX12_lessonsUntilMeant 53 = .ok (.invokevirtual 223, 3) := by decide +kernel
theorem dX12_lessonsUntilMeant_56 : decode cX12_lessonsUntilMeant 56 = .ok (.pop, 1) := by decide +kernel
theorem dX12_lessonsUntilMeant_57 : decode cX12_lessonsUntilMeant 57 = .ok (.iinc 2 1, 3) := by decide +kernel
theorem dX12_lessonsUntilMeant_60 : decode cX12_lessonsUntilMeant 60 = .ok (.goto (-42), 3) := by decide +kernel
theorem dX12_lessonsUntilMeant_63 : decode cX12_lessonsUntilMeant 63 = .ok (.iconst (-1), 1) := by decide +kernel
theorem dX12_lessonsUntilMeant_64 : decode cX12_lessonsUntilMeant 64 = .ok (.ireturn, 1) := by decide +kernel
theorem dX12_bestShift_0 : decode cX12_bestShift 0 = .ok (.aload_n 0, 1) := by decide +kernel
theorem dX12_bestShift_1 : decode cX12_bestShift 1 = .ok (.iload_n 1, 1) := by decide +kernel
theorem dX12_bestShift_2 : decode cX12_bestShift 2 = .ok (.invokevirtual 129, 3) := by decide +kernel
theorem dX12_bestShift_5 : decode cX12_bestShift 5 = .ok (.aload_n 0, 1) := by decide +kernel
theorem dX12_bestShift_6 : decode cX12_bestShift 6 = .ok (.invokevirtual 181, 3) := by decide +kernel
theorem dX12_bestShift_9 : decode cX12_bestShift 9 = .ok (.iconst 0, 1) := by decide +kernel
theorem dX12_bestShift_10 : decode cX12_bestShift 10 = .ok (.istore_n 2, 1) := by decide +kernel
theorem dX12_bestShift_11 : decode cX12_bestShift 11 = .ok (.aload_n 0, 1) := by decide +kernel
theorem dX12_bestShift_12 : decode cX12_bestShift 12 = .ok (.iload_n 1, 1) := by decide +kernel
theorem dX12_bestShift_13 : decode cX12_bestShift 13 = .ok (.iconst 0, 1) := by decide +kernel
theorem dX12_bestShift_14 : decode cX12_bestShift 14 = .ok (.invokevirtual 230, 3) := by decide +kernel
theorem dX12_bestShift_17 : decode cX12_bestShift 17 = .ok (.istore_n 3, 1) := by decide +kernel
theorem dX12_bestShift_18 : decode cX12_bestShift 18 = .ok (.iconst 1, 1) := by decide +kernel
theorem dX12_bestShift_19 : decode cX12_bestShift 19 = .ok (.istore 4, 2) := by decide +kernel
theorem dX12_bestShift_21 : decode cX12_bestShift 21 = .ok (.iload 4, 2) := by decide +kernel
theorem dX12_bestShift_23 : decode cX12_bestShift 23 = .ok (.bipush 39, 2) := by decide +kernel
theorem dX12_bestShift_25 : decode cX12_bestShift 25 = .ok (.if_icmp .gt 53, 3) := by decide +kernel
theorem dX12_bestShift_28 : decode cX12_bestShift 28 = .ok (.aload_n 0, 1) := by decide +kernel
theorem dX12_bestShift_29 : decode cX12_bestShift 29 = .ok (.iload_n 1, 1) := by decide +kernel
theorem dX12_bestShift_30 : decode cX12_bestShift 30 = .ok (.iload 4, 2) := by decide +kernel
theorem dX12_bestShift_32 : decode cX12_bestShift 32 = .ok (.invokevirtual 230, 3) := by decide +kernel
theorem dX12_bestShift_35 : decode cX12_bestShift 35 = .ok (.istore 5, 2) := by decide +kernel
theorem dX12_bestShift_37 : decode cX12_bestShift 37 = .ok (.iload 5, 2) := by decide +kernel
theorem dX12_bestShift_39 : decode cX12_bestShift 39 = .ok (.iload_n 3, 1) := by decide +kernel
theorem dX12_bestShift_40 : decode cX12_bestShift 40 = .ok (.if_icmp .ge 9, 3) := by decide +kernel
theorem dX12_bestShift_43 : decode cX12_bestShift 43 = .ok (.iload 4, 2) := by decide +kernel
theorem dX12_bestShift_45 : decode cX12_bestShift 45 = .ok (.istore_n 2, 1) := by decide +kernel
theorem dX12_bestShift_46 : decode cX12_bestShift 46 = .ok (.iload 5, 2) := by decide +kernel
theorem dX12_bestShift_48 : decode cX12_bestShift 48 = .ok (.istore_n 3, 1) := by decide +kernel
theorem dX12_bestShift_49 : decode cX12_bestShift 49 = .ok (.aload_n 0, 1) := by decide +kernel
theorem dX12_bestShift_50 : decode cX12_bestShift 50 = .ok (.iload_n 1, 1) := by decide +kernel
theorem dX12_bestShift_51 : decode cX12_bestShift 51 = .ok (.iload 4, 2) := by decide +kernel
theorem dX12_bestShift_53 : decode cX12_bestShift 53 = .ok (.ineg, 1) := by decide +kernel
theorem dX12_bestShift_54 : decode cX12_bestShift 54 = .ok (.invokevirtual 230, 3) := by decide +kernel
theorem dX12_bestShift_57 : decode cX12_bestShift 57 = .ok (.istore 6, 2) := by decide +kernel
theorem dX12_bestShift_59 : decode cX12_bestShift 59 = .ok (.iload 6, 2) := by decide +kernel
theorem dX12_bestShift_61 : decode cX12_bestShift 61 = .ok (.iload_n 3, 1) := by decide +kernel
theorem dX12_bestShift_62 : decode cX12_bestShift 62 = .ok (.if_icmp .ge 10, 3) := by decide +kernel
theorem dX12_bestShift_65 : decode cX12_bestShift 65 = .ok (.iload 4, 2) := by decide +kernel
theorem dX12_bestShift_67 : decode cX12_bestShift 67 = .ok (.ineg, 1) := by decide +kernel
theorem dX12_bestShift_68 : decode cX12_bestShift 68 = .ok (.istore_n 2, 1) := by decide +kernel
theorem dX12_bestShift_69 : decode cX12_bestShift 69 = .ok (.iload 6, 2) := by decide +kernel
theorem dX12_bestShift_71 : decode cX12_bestShift 71 = .ok (.istore_n 3, 1) := by decide +kernel
theorem dX12_bestShift_72 : decode cX12_bestShift 72 = .ok (.iinc 4 1, 3) := by decide +kernel
theorem dX12_bestShift_75 : decode cX12_bestShift 75 = .ok (.goto (-54), 3) := by decide +kernel
theorem dX12_bestShift_78 : decode cX12_bestShift 78 = .ok (.iload_n 2, 1) := by decide +kernel
theorem dX12_bestShift_79 : decode cX12_bestShift 79 = .ok (.ireturn, 1) := by decide +kernel
theorem dX12_meanLength_0 : decode cX12_meanLength 0 = .ok (.aload_n 0, 1) := by decide +kernel
theorem dX12_meanLength_1 : decode cX12_meanLength 1 = .ok (.getfield 61, 3) := by decide +kernel
theorem dX12_meanLength_4 : decode cX12_meanLength 4 = .ok (.getfield 114, 3) := by decide +kernel
theorem dX12_meanLength_7 : decode cX12_meanLength 7 = .ok (.ifCond .ne 5, 3) := by decide +kernel
theorem dX12_meanLength_10 : decode cX12_meanLength 10 = .ok (.dconst 0, 1) := by decide +kernel
theorem dX12_meanLength_11 : decode cX12_meanLength 11 = .ok (.dreturn, 1) := by decide +kernel
theorem dX12_meanLength_12 : decode cX12_meanLength 12 = .ok (.iconst 0, 1) := by decide +kernel
theorem dX12_meanLength_13 : decode cX12_meanLength 13 = .ok (.istore_n 1, 1) := by decide +kernel
theorem dX12_meanLength_14 : decode cX12_meanLength 14 = .ok (.iconst 0, 1) := by decide +kernel
theorem dX12_meanLength_15 : decode cX12_meanLength 15 = .ok (.istore_n 2, 1) := by decide +kernel
theorem dX12_meanLength_16 : decode cX12_meanLength 16 = .ok (.iload_n 2, 1) := by decide +kernel
theorem dX12_meanLength_17 : decode cX12_meanLength 17 = .ok (.aload_n 0, 1) := by decide +kernel
theorem dX12_meanLength_18 : decode cX12_meanLength 18 = .ok (.getfield 61, 3) := by decide +kernel
theorem dX12_meanLength_21 : decode cX12_meanLength 21 = .ok (.getfield 114, 3) := by decide +kernel
theorem dX12_meanLength_24 : decode cX12_meanLength 24 = .ok (.if_icmp .ge 20, 3) := by decide +kernel
theorem dX12_meanLength_27 : decode cX12_meanLength 27 = .ok (.iload_n 1, 1) := by decide +kernel
theorem dX12_meanLength_28 : decode cX12_meanLength 28 = .ok (.aload_n 0, 1) := by decide +kernel
theorem dX12_meanLength_29 : decode cX12_meanLength 29 = .ok (.iload_n 2, 1) := by decide +kernel
theorem dX12_meanLength_30 : decode cX12_meanLength 30 = .ok (.invokevirtual 132, 3) := by decide +kernel
theorem dX12_meanLength_33 : decode cX12_meanLength 33 = .ok (.getfield 128, 3) := by decide +kernel
theorem dX12_meanLength_36 : decode cX12_meanLength 36 = .ok (.iadd, 1) := by decide +kernel
theorem dX12_meanLength_37 : decode cX12_meanLength 37 = .ok (.istore_n 1, 1) := by decide +kernel
theorem dX12_meanLength_38 : decode cX12_meanLength 38 = .ok (.iinc 2 1, 3) := by decide +kernel
theorem dX12_meanLength_41 : decode cX12_meanLength 41 = .ok (.goto (-25), 3) := by decide +kernel
theorem dX12_meanLength_44 : decode cX12_meanLength 44 = .ok (.iload_n 1, 1) := by decide +kernel
theorem dX12_meanLength_45 : decode cX12_meanLength 45 = .ok (.i2d, 1) := by decide +kernel
theorem dX12_meanLength_46 : decode cX12_meanLength 46 = .ok (.aload_n 0, 1) := by decide +kernel
theorem dX12_meanLength_47 : decode cX12_meanLength 47 = .ok (.getfield 61, 3) := by decide +kernel
theorem dX12_meanLength_50 : decode cX12_meanLength 50 = .ok (.getfield 114, 3) := by decide +kernel
theorem dX12_meanLength_53 : decode cX12_meanLength 53 = .ok (.i2d, 1) := by decide +kernel
theorem dX12_meanLength_54 : decode cX12_meanLength 54 = .ok (.ddiv, 1) := by decide +kernel
theorem dX12_meanLength_55 : decode cX12_meanLength 55 = .ok (.dreturn, 1) := by decide +kernel
theorem dX12_digest_0 : decode cX12_digest 0 = .ok (.ldc2_w 233, 3) := by decide +kernel
theorem dX12_digest_3 : decode cX12_digest 3 = .ok (.lstore_n 1, 1) := by decide +kernel
theorem dX12_digest_4 : decode cX12_digest 4 = .ok (.lload_n 1, 1) := by decide +kernel
theorem dX12_digest_5 : decode cX12_digest 5 = .ok (.ldc2_w 235, 3) := by decide +kernel
theorem dX12_digest_8 : decode cX12_digest 8 = .ok (.lmul, 1) := by decide +kernel
theorem dX12_digest_9 : decode cX12_digest 9 = .ok (.aload_n 0, 1) := by decide +kernel
theorem dX12_digest_10 : decode cX12_digest 10 = .ok (.getfield 61, 3) := by decide +kernel
theorem dX12_digest_13 : decode cX12_digest 13 = .ok (.getfield 114, 3) := by decide +kernel
theorem dX12_digest_16 : decode cX12_digest 16 = .ok (.i2l, 1) := by decide +kernel
theorem dX12_digest_17 : decode cX12_digest 17 = .ok (.ladd, 1) := by decide +kernel
theorem dX12_digest_18 : decode cX12_digest 18 = .ok (.lstore_n 1, 1) := by decide +kernel
theorem dX12_digest_19 : decode cX12_digest 19 = .ok (.lload_n 1, 1) := by decide +kernel
theorem dX12_digest_20 : decode cX12_digest 20 = .ok (.ldc2_w 235, 3) := by decide +kernel
theorem dX12_digest_23 : decode cX12_digest 23 = .ok (.lmul, 1) := by decide +kernel
theorem dX12_digest_24 : decode cX12_digest 24 = .ok (.aload_n 0, 1) := by decide +kernel
theorem dX12_digest_25 : decode cX12_digest 25 = .ok (.getfield 61, 3) := by decide +kernel
theorem dX12_digest_28 : decode cX12_digest 28 = .ok (.invokevirtual 117, 3) := by decide +kernel
theorem dX12_digest_31 : decode cX12_digest 31 = .ok (.i2l, 1) := by decide +kernel
theorem dX12_digest_32 : decode cX12_digest 32 = .ok (.ladd, 1) := by decide +kernel
theorem dX12_digest_33 : decode cX12_digest 33 = .ok (.lstore_n 1, 1) := by decide +kernel
theorem dX12_digest_34 : decode cX12_digest 34 = .ok (.lload_n 1, 1) := by decide +kernel
theorem dX12_digest_35 : decode cX12_digest 35 = .ok (.ldc2_w 235, 3) := by decide +kernel
theorem dX12_digest_38 : decode cX12_digest 38 = .ok (.lmul, 1) := by decide +kernel
theorem dX12_digest_39 : decode cX12_digest 39 = .ok (.aload_n 0, 1) := by decide +kernel
theorem dX12_digest_40 : decode cX12_digest 40 = .ok (.getfield 54, 3) := by decide +kernel
theorem dX12_digest_43 : decode cX12_digest 43 = .ok (.getfield 121, 3) := by decide +kernel
theorem dX12_digest_46 : decode cX12_digest 46 = .ok (.i2l, 1) := by decide +kernel
theorem dX12_digest_47 : decode cX12_digest 47 = .ok (.ladd, 1) := by decide +kernel
theorem dX12_digest_48 : decode cX12_digest 48 = .ok (.lstore_n 1, 1) := by decide +kernel
theorem dX12_digest_49 : decode cX12_digest 49 = .ok (.lload_n 1, 1) := by decide +kernel
theorem dX12_digest_50 : decode cX12_digest 50 = .ok (.ldc2_w 235, 3) := by decide +kernel
theorem dX12_digest_53 : decode cX12_digest 53 = .ok (.lmul, 1) := by decide +kernel
theorem dX12_digest_54 : decode cX12_digest 54 = .ok (.aload_n 0, 1) := by decide +kernel
theorem dX12_digest_55 : decode cX12_digest 55 = .ok (.getfield 61, 3) := by decide +kernel
theorem dX12_digest_58 : decode cX12_digest 58 = .ok (.getfield 122, 3) := by decide +kernel
theorem dX12_digest_61 : decode cX12_digest 61 = .ok (.i2l, 1) := by decide +kernel
theorem dX12_digest_62 : decode cX12_digest 62 = .ok (.ladd, 1) := by decide +kernel
theorem dX12_digest_63 : decode cX12_digest 63 = .ok (.lstore_n 1, 1) := by decide +kernel
theorem dX12_digest_64 : decode cX12_digest 64 = .ok (.lload_n 1, 1) := by decide +kernel
theorem dX12_digest_65 : decode cX12_digest 65 = .ok (.ldc2_w 235, 3) := by decide +kernel
theorem dX12_digest_68 : decode cX12_digest 68 = .ok (.lmul, 1) := by decide +kernel
theorem dX12_digest_69 : decode cX12_digest 69 = .ok (.aload_n 0, 1) := by decide +kernel
theorem dX12_digest_70 : decode cX12_digest 70 = .ok (.getfield 61, 3) := by decide +kernel
theorem dX12_digest_73 : decode cX12_digest 73 = .ok (.getfield 125, 3) := by decide +kernel
theorem dX12_digest_76 : decode cX12_digest 76 = .ok (.i2l, 1) := by decide +kernel
theorem dX12_digest_77 : decode cX12_digest 77 = .ok (.ladd, 1) := by decide +kernel
theorem dX12_digest_78 : decode cX12_digest 78 = .ok (.lstore_n 1, 1) := by decide +kernel
theorem dX12_digest_79 : decode cX12_digest 79 = .ok (.lload_n 1, 1) := by decide +kernel
theorem dX12_digest_80 : decode cX12_digest 80 = .ok (.ldc2_w 235, 3) := by decide +kernel
theorem dX12_digest_83 : decode cX12_digest 83 = .ok (.lmul, 1) := by decide +kernel
theorem dX12_digest_84 : decode cX12_digest 84 = .ok (.aload_n 0, 1) := by decide +kernel
theorem dX12_digest_85 : decode cX12_digest 85 = .ok (.getfield 35, 3) := by decide +kernel
theorem dX12_digest_88 : decode cX12_digest 88 = .ok (.getfield 128, 3) := by decide +kernel
theorem dX12_digest_91 : decode cX12_digest 91 = .ok (.i2l, 1) := by decide +kernel
theorem dX12_digest_92 : decode cX12_digest 92 = .ok (.ladd, 1) := by decide +kernel
theorem dX12_digest_93 : decode cX12_digest 93 = .ok (.lstore_n 1, 1) := by decide +kernel
theorem dX12_digest_94 : decode cX12_digest 94 = .ok (.lload_n 1, 1) := by decide +kernel
theorem dX12_digest_95 : decode cX12_digest 95 = .ok (.ldc2_w 235, 3) := by decide +kernel
theorem dX12_digest_98 : decode cX12_digest 98 = .ok (.lmul, 1) := by decide +kernel
theorem dX12_digest_99 : decode cX12_digest 99 = .ok (.aload_n 0, 1) := by decide +kernel
theorem dX12_digest_100 : decode cX12_digest 100 = .ok (.getfield 47, 3) := by decide +kernel
theorem dX12_digest_103 : decode cX12_digest 103 = .ok (.aload_n 0, 1) := by decide +kernel
theorem dX12_digest_104 : decode cX12_digest 104 = .ok (.getfield 61, 3) := by decide +kernel
theorem dX12_digest_107 : decode cX12_digest 107 = .ok (.invokevirtual 190, 3) := by decide +kernel
theorem dX12_digest_110 : decode cX12_digest 110 = .ok (.i2l, 1) := by decide +kernel
theorem dX12_digest_111 : decode cX12_digest 111 = .ok (.ladd, 1) := by decide +kernel
theorem dX12_digest_112 : decode cX12_digest 112 = .ok (.lstore_n 1, 1) := by decide +kernel
theorem dX12_digest_113 : decode cX12_digest 113 = .ok (.iconst 0, 1) := by decide +kernel
theorem dX12_digest_114 : decode cX12_digest 114 = .ok (.istore_n 3, 1) := by decide +kernel
theorem dX12_digest_115 : decode cX12_digest 115 = .ok (.iload_n 3, 1) := by decide +kernel
theorem dX12_digest_116 : decode cX12_digest 116 = .ok (.aload_n 0, 1) := by decide +kernel
theorem dX12_digest_117 : decode cX12_digest 117 = .ok (.getfield 61, 3) := by decide +kernel
theorem dX12_digest_120 : decode cX12_digest 120 = .ok (.getfield 114, 3) := by decide +kernel
theorem dX12_digest_123 : decode cX12_digest 123 = .ok (.if_icmp .ge 16, 3) := by decide +kernel
theorem dX12_digest_126 : decode cX12_digest 126 = .ok (.aload_n 0, 1) := by decide +kernel
theorem dX12_digest_127 : decode cX12_digest 127 = .ok (.lload_n 1, 1) := by decide +kernel
theorem dX12_digest_128 : decode cX12_digest 128 = .ok (.iload_n 3, 1) := by decide +kernel
theorem dX12_digest_129 : decode cX12_digest 129 = .ok (.invokevirtual 237, 3) := by decide +kernel
theorem dX12_digest_132 : decode cX12_digest 132 = .ok (.lstore_n 1, 1) := by decide +kernel
theorem dX12_digest_133 : decode cX12_digest 133 = .ok (.iinc 3 1, 3) := by decide +kernel
theorem dX12_digest_136 : decode cX12_digest 136 = .ok (.goto (-21), 3) := by decide +kernel
theorem dX12_digest_139 : decode cX12_digest 139 = .ok (.lload_n 1, 1) := by decide +kernel
theorem dX12_digest_140 : decode cX12_digest 140 = .ok (.aload_n 0, 1) := by decide +kernel
theorem dX12_digest_141 : decode cX12_digest 141 = .ok (.getfield 35, 3) := by decide +kernel
theorem dX12_digest_144 : decode cX12_digest 144 = .ok (.invokestatic 241, 3) := by decide +kernel
theorem dX12_digest_147 : decode cX12_digest 147 = .ok (.lreturn, 1) := by decide +kernel
theorem dX12_requireWord_0 : decode cX12_requireWord 0 = .ok (.iload_n 1, 1) := by decide +kernel
theorem dX12_requireWord_1 : decode cX12_requireWord 1 = .ok (.ifCond .lt 14, 3) := by decide +kernel
theorem dX12_requireWord_4 : decode cX12_requireWord 4 = .ok (.iload_n 1, 1) := by decide +kernel
theorem dX12_requireWord_5 : decode cX12_requireWord 5 = .ok (.aload_n 0, 1) := by decide +kernel
theorem dX12_requireWord_6 : decode cX12_requireWord 6 = .ok (.getfield 61, 3) := by decide +kernel
theorem dX12_requireWord_9 : decode cX12_requireWord 9 = .ok (.getfield 114, 3) := by decide +kernel
theorem dX12_requireWord_12 : decode cX12_requireWord 12 = .ok (.if_icmp .lt 13, 3) := by decide +kernel
theorem dX12_requireWord_15 : decode cX12_requireWord 15 = .ok (.new 245, 3) := by decide +kernel
theorem dX12_requireWord_18 : decode cX12_requireWord 18 = .ok (.dup, 1) := by decide +kernel
theorem dX12_requireWord_19 : decode cX12_requireWord 19 = .ok (.ldc 247, 2) := by decide +kernel
theorem dX12_requireWord_21 : decode cX12_requireWord 21 = .ok (.invokespecial 249, 3) := by decide +kernel
theorem dX12_requireWord_24 : decode cX12_requireWord 24 = .ok (.athrow, 1) := by decide +kernel
theorem dX12_requireWord_25 : decode cX12_requireWord 25 = .ok (.return_, 1) := by decide +kernel
theorem dX12_requireBeat_0 : decode cX12_requireBeat 0 = .ok (.iload_n 1, 1) := by decide +kernel
theorem dX12_requireBeat_1 : decode cX12_requireBeat 1 = .ok (.ifCond .lt 11, 3) := by decide +kernel
theorem dX12_requireBeat_4 : decode cX12_requireBeat 4 = .ok (.iload_n 1, 1) := by decide +kernel
theorem dX12_requireBeat_5 : decode cX12_requireBeat 5 = .ok (.aload_n 0, 1) := by decide +kernel
theorem dX12_requireBeat_6 : decode cX12_requireBeat 6 = .ok (.getfield 128, 3) := by decide +kernel
theorem dX12_requireBeat_9 : decode cX12_requireBeat 9 = .ok (.if_icmp .lt 13, 3) := by decide +kernel
theorem dX12_requireBeat_12 : decode cX12_requireBeat 12 = .ok (.new 245, 3) := by decide +kernel
theorem dX12_requireBeat_15 : decode cX12_requireBeat 15 = .ok (.dup, 1) := by decide +kernel
theorem dX12_requireBeat_16 : decode cX12_requireBeat 16 = .ok (.ldc 250, 2) := by decide +kernel
theorem dX12_requireBeat_18 : decode cX12_requireBeat 18 = .ok (.invokespecial 249, 3) := by decide +kernel
theorem dX12_requireBeat_21 : decode cX12_requireBeat 21 = .ok (.athrow, 1) := by decide +kernel
theorem dX12_requireBeat_22 : decode cX12_requireBeat 22 = .ok (.return_, 1) := by decide +kernel
theorem dX12_requireSomeHeard_0 : decode cX12_requireSomeHeard 0 = .ok (.aload_n 0, 1) := by decide +kernel
theorem dX12_requireSomeHeard_1 : decode cX12_requireSomeHeard 1 = .ok (.getfield 35, 3) := by decide +kernel
theorem dX12_requireSomeHeard_4 : decode cX12_requireSomeHeard 4 = .ok (.getfield 128, 3) := by decide +kernel
theorem dX12_requireSomeHeard_7 : decode cX12_requireSomeHeard 7 = .ok (.ifCond .ne 13, 3) := by decide +kernel
theorem dX12_requireSomeHeard_10 : decode cX12_requireSomeHeard 10 = .ok (.new 78, 3) := by decide +kernel
theorem dX12_requireSomeHeard_13 : decode cX12_requireSomeHeard 13 = .ok (.dup, 1) := by decide +kernel
theorem dX12_requireSomeHeard_14 : decode cX12_requireSomeHeard 14 = .ok (.ldc 252, 2) := by decide +kernel
theorem dX12_requireSomeHeard_16 : decode cX12_requireSomeHeard 16 = .ok (.invokespecial 82, 3) := by decide +kernel
theorem dX12_requireSomeHeard_19 : decode cX12_requireSomeHeard 19 = .ok (.athrow, 1) := by decide +kernel
theorem dX12_requireSomeHeard_20 : decode cX12_requireSomeHeard 20 = .ok (.return_, 1) := by decide +kernel
theorem dX12_requireMeant_0 : decode cX12_requireMeant 0 = .ok (.iload_n 0, 1) := by decide +kernel
theorem dX12_requireMeant_1 : decode cX12_requireMeant 1 = .ok (.iconst (-1), 1) := by decide +kernel
theorem dX12_requireMeant_2 : decode cX12_requireMeant 2 = .ok (.if_icmp .ne 13, 3) := by decide +kernel
theorem dX12_requireMeant_5 : decode cX12_requireMeant 5 = .ok (.new 78, 3) := by decide +kernel
theorem dX12_requireMeant_8 : decode cX12_requireMeant 8 = .ok (.dup, 1) := by decide +kernel
theorem dX12_requireMeant_9 : decode cX12_requireMeant 9 = .ok (.ldc 254, 2) := by decide +kernel
theorem dX12_requireMeant_11 : decode cX12_requireMeant 11 = .ok (.invokespecial 82, 3) := by decide +kernel
theorem dX12_requireMeant_14 : decode cX12_requireMeant 14 = .ok (.athrow, 1) := by decide +kernel
theorem dX12_requireMeant_15 : decode cX12_requireMeant 15 = .ok (.return_, 1) := by decide +kernel
theorem dX12_requireLessons_0 : decode cX12_requireLessons 0 = .ok (.iload_n 0, 1) := by decide +kernel
theorem dX12_requireLessons_1 : decode cX12_requireLessons 1 = .ok (.iconst 1, 1) := by decide +kernel
theorem dX12_requireLessons_2 : decode cX12_requireLessons 2 = .ok (.if_icmp .lt 9, 3) := by decide +kernel
theorem dX12_requireLessons_5 : decode cX12_requireLessons 5 = .ok (.iload_n 0, 1) := by decide +kernel
theorem dX12_requireLessons_6 : decode cX12_requireLessons 6 = .ok (.bipush 20, 2) := by decide +kernel
theorem dX12_requireLessons_8 : decode cX12_requireLessons 8 = .ok (.if_icmp .le 14, 3) := by decide +kernel
theorem dX12_requireLessons_11 : decode cX12_requireLessons 11 = .ok (.new 89, 3) := by decide +kernel
theorem dX12_requireLessons_14 : decode cX12_requireLessons 14 = .ok (.dup, 1) := by decide +kernel
theorem dX12_requireLessons_15 : decode cX12_requireLessons 15 = .ok (.ldc_w 256, 3) := by decide +kernel
theorem dX12_requireLessons_18 : decode cX12_requireLessons 18 = .ok (.invokespecial 93, 3) := by decide +kernel
theorem dX12_requireLessons_21 : decode cX12_requireLessons 21 = .ok (.athrow, 1) := by decide +kernel
theorem dX12_requireLessons_22 : decode cX12_requireLessons 22 = .ok (.return_, 1) := by decide +kernel
theorem dX12_beginAnew_0 : decode cX12_beginAnew 0 = .ok (.aload_n 0, 1) := by decide +kernel
theorem dX12_beginAnew_1 : decode cX12_beginAnew 1 = .ok (.getfield 54, 3) := by decide +kernel
theorem dX12_beginAnew_4 : decode cX12_beginAnew 4 = .ok (.astore_n 1, 1) := by decide +kernel
theorem dX12_beginAnew_5 : decode cX12_beginAnew 5 = .ok (.aload_n 0, 1) := by decide +kernel
theorem dX12_beginAnew_6 : decode cX12_beginAnew 6 = .ok (.aload_n 0, 1) := by decide +kernel
theorem dX12_beginAnew_7 : decode cX12_beginAnew 7 = .ok (.getfield 65, 3) := by decide +kernel
theorem dX12_beginAnew_10 : decode cX12_beginAnew 10 = .ok (.putfield 54, 3) := by decide +kernel
theorem dX12_beginAnew_13 : decode cX12_beginAnew 13 = .ok (.aload_n 0, 1) := by decide +kernel
theorem dX12_beginAnew_14 : decode cX12_beginAnew 14 = .ok (.aload_n 1, 1) := by decide +kernel
theorem dX12_beginAnew_15 : decode cX12_beginAnew 15 = .ok (.putfield 65, 3) := by decide +kernel
theorem dX12_beginAnew_18 : decode cX12_beginAnew 18 = .ok (.aload_n 0, 1) := by decide +kernel
theorem dX12_beginAnew_19 : decode cX12_beginAnew 19 = .ok (.getfield 61, 3) := by decide +kernel
theorem dX12_beginAnew_22 : decode cX12_beginAnew 22 = .ok (.astore_n 2, 1) := by decide +kernel
theorem dX12_beginAnew_23 : decode cX12_beginAnew 23 = .ok (.aload_n 0, 1) := by decide +kernel
theorem dX12_beginAnew_24 : decode cX12_beginAnew 24 = .ok (.aload_n 0, 1) := by decide +kernel
theorem dX12_beginAnew_25 : decode cX12_beginAnew 25 = .ok (.getfield 68, 3) := by decide +kernel
theorem dX12_beginAnew_28 : decode cX12_beginAnew 28 = .ok (.putfield 61, 3) := by decide +kernel
theorem dX12_beginAnew_31 : decode cX12_beginAnew 31 = .ok (.aload_n 0, 1) := by decide +kernel
theorem dX12_beginAnew_32 : decode cX12_beginAnew 32 = .ok (.aload_n 2, 1) := by decide +kernel
theorem dX12_beginAnew_33 : decode cX12_beginAnew 33 = .ok (.putfield 68, 3) := by decide +kernel
theorem dX12_beginAnew_36 : decode cX12_beginAnew 36 = .ok (.aload_n 0, 1) := by decide +kernel
theorem dX12_beginAnew_37 : decode cX12_beginAnew 37 = .ok (.getfield 35, 3) := by decide +kernel
theorem dX12_beginAnew_40 : decode cX12_beginAnew 40 = .ok (.iconst 0, 1) := by decide +kernel
theorem dX12_beginAnew_41 : decode cX12_beginAnew 41 = .ok (.putfield 128, 3) := by decide +kernel
theorem dX12_beginAnew_44 : decode cX12_beginAnew 44 = .ok (.return_, 1) := by decide +kernel
theorem dX12_rowOf_0 : decode cX12_rowOf 0 = .ok (.aload_n 0, 1) := by decide +kernel
theorem dX12_rowOf_1 : decode cX12_rowOf 1 = .ok (.getfield 61, 3) := by decide +kernel
theorem dX12_rowOf_4 : decode cX12_rowOf 4 = .ok (.iload_n 1, 1) := by decide +kernel
theorem dX12_rowOf_5 : decode cX12_rowOf 5 = .ok (.invokevirtual 147, 3) := by decide +kernel
theorem dX12_rowOf_8 : decode cX12_rowOf 8 = .ok (.getfield 258, 3) := by decide +kernel
theorem dX12_rowOf_11 : decode cX12_rowOf 11 = .ok (.areturn, 1) := by decide +kernel
theorem dX12_wordsApart_0 : decode cX12_wordsApart 0 = .ok (.aload_n 0, 1) := by decide +kernel
theorem dX12_wordsApart_1 : decode cX12_wordsApart 1 = .ok (.getfield 28, 3) := by decide +kernel
theorem dX12_wordsApart_4 : decode cX12_wordsApart 4 = .ok (.aload_n 0, 1) := by decide +kernel
theorem dX12_wordsApart_5 : decode cX12_wordsApart 5 = .ok (.iload_n 1, 1) := by decide +kernel
theorem dX12_wordsApart_6 : decode cX12_wordsApart 6 = .ok (.invokevirtual 132, 3) := by decide +kernel
theorem dX12_wordsApart_9 : decode cX12_wordsApart 9 = .ok (.aload_n 0, 1) := by decide +kernel
theorem dX12_wordsApart_10 : decode cX12_wordsApart 10 = .ok (.iload_n 2, 1) := by decide +kernel
theorem dX12_wordsApart_11 : decode cX12_wordsApart 11 = .ok (.invokevirtual 132, 3) := by decide +kernel
theorem dX12_wordsApart_14 : decode cX12_wordsApart 14 = .ok (.aload_n 0, 1) := by decide +kernel
theorem dX12_wordsApart_15 : decode cX12_wordsApart 15 = .ok (.getfield 54, 3) := by decide +kernel
theorem dX12_wordsApart_18 : decode cX12_wordsApart 18 = .ok (.getfield 164, 3) := by decide +kernel
theorem dX12_wordsApart_21 : decode cX12_wordsApart 21 = .ok (.invokevirtual 261, 3) := by decide +kernel
theorem dX12_wordsApart_24 : decode cX12_wordsApart 24 = .ok (.ireturn, 1) := by decide +kernel
theorem dX12_nearEachOther_0 : decode cX12_nearEachOther 0 = .ok (.aload_n 0, 1) := by decide +kernel
theorem dX12_nearEachOther_1 : decode cX12_nearEachOther 1 = .ok (.iload_n 1, 1) := by decide +kernel
theorem dX12_nearEachOther_2 : decode cX12_nearEachOther 2 = .ok (.invokevirtual 132, 3) := by decide +kernel
theorem dX12_nearEachOther_5 : decode cX12_nearEachOther 5 = .ok (.getfield 128, 3) := by decide +kernel
theorem dX12_nearEachOther_8 : decode cX12_nearEachOther 8 = .ok (.aload_n 0, 1) := by decide +kernel
theorem dX12_nearEachOther_9 : decode cX12_nearEachOther 9 = .ok (.iload_n 2, 1) := by decide +kernel
theorem dX12_nearEachOther_10 : decode cX12_nearEachOther 10 = .ok (.invokevirtual 132, 3) := by decide +kernel
theorem dX12_nearEachOther_13 : decode cX12_nearEachOther 13 = .ok (.getfield 128, 3) := by decide +kernel
theorem dX12_nearEachOther_16 : decode cX12_nearEachOther 16 = .ok (.invokestatic 263, 3) := by decide +kernel
theorem dX12_nearEachOther_19 : decode cX12_nearEachOther 19 = .ok (.istore_n 3, 1) := by decide +kernel
theorem dX12_nearEachOther_20 : decode cX12_nearEachOther 20 = .ok (.iload_n 1, 1) := by decide +kernel
theorem dX12_nearEachOther_21 : decode cX12_nearEachOther 21 = .ok (.iload_n 2, 1) := by decide +kernel
theorem dX12_nearEachOther_22 : decode cX12_nearEachOther 22 = .ok (.if_icmp .eq 27, 3) := by decide +kernel
theorem dX12_nearEachOther_25 : decode cX12_nearEachOther 25 = .ok (.aload_n 0, 1) := by decide +kernel
theorem dX12_nearEachOther_26 : decode cX12_nearEachOther 26 = .ok (.iload_n 1, 1) := by decide +kernel
theorem dX12_nearEachOther_27 : decode cX12_nearEachOther 27 = .ok (.iload_n 2, 1) := by decide +kernel
theorem dX12_nearEachOther_28 : decode cX12_nearEachOther 28 = .ok (.invokevirtual 160, 3) := by decide +kernel
theorem dX12_nearEachOther_31 : decode cX12_nearEachOther 31 = .ok (.aload_n 0, 1) := by decide +kernel
theorem dX12_nearEachOther_32 : decode cX12_nearEachOther 32 = .ok (.getfield 54, 3) := by decide +kernel
theorem dX12_nearEachOther_35 : decode cX12_nearEachOther 35 = .ok (.getfield 268, 3) := by decide +kernel
theorem dX12_nearEachOther_38 : decode cX12_nearEachOther 38 = .ok (.iload_n 3, 1) := by decide +kernel
theorem dX12_nearEachOther_39 : decode cX12_nearEachOther 39 = .ok (.imul, 1) := by decide +kernel
theorem dX12_nearEachOther_40 : decode cX12_nearEachOther 40 = .ok (.iconst 4, 1) := by decide +kernel
theorem dX12_nearEachOther_41 : decode cX12_nearEachOther 41 = .ok (.idiv, 1) := by decide +kernel
theorem dX12_nearEachOther_42 : decode cX12_nearEachOther 42 = .ok (.if_icmp .ge 7, 3) := by decide +kernel
theorem dX12_nearEachOther_45 : decode cX12_nearEachOther 45 = .ok (.iconst 1, 1) := by decide +kernel
theorem dX12_nearEachOther_46 : decode cX12_nearEachOther 46 = .ok (.goto 4, 3) := by decide +kernel
theorem dX12_nearEachOther_49 : decode cX12_nearEachOther 49 = .ok (.iconst 0, 1) := by decide +kernel
theorem dX12_nearEachOther_50 : decode cX12_nearEachOther 50 = .ok (.ireturn, 1) := by decide +kernel
theorem dX12_needless_0 : decode cX12_needless 0 = .ok (.aload_n 0, 1) := by decide +kernel
theorem dX12_needless_1 : decode cX12_needless 1 = .ok (.getfield 61, 3) := by decide +kernel
theorem dX12_needless_4 : decode cX12_needless 4 = .ok (.iload_n 1, 1) := by decide +kernel
theorem dX12_needless_5 : decode cX12_needless 5 = .ok (.invokevirtual 147, 3) := by decide +kernel
theorem dX12_needless_8 : decode cX12_needless 8 = .ok (.getfield 151, 3) := by decide +kernel
theorem dX12_needless_11 : decode cX12_needless 11 = .ok (.ifCond .eq 5, 3) := by decide +kernel
theorem dX12_needless_14 : decode cX12_needless 14 = .ok (.iconst 0, 1) := by decide +kernel
theorem dX12_needless_15 : decode cX12_needless 15 = .ok (.ireturn, 1) := by decide +kernel
theorem dX12_needless_16 : decode cX12_needless 16 = .ok (.iconst 0, 1) := by decide +kernel
theorem dX12_needless_17 : decode cX12_needless 17 = .ok (.istore_n 2, 1) := by decide +kernel
theorem dX12_needless_18 : decode cX12_needless 18 = .ok (.iload_n 2, 1) := by decide +kernel
theorem dX12_needless_19 : decode cX12_needless 19 = .ok (.iload_n 1, 1) := by decide +kernel
theorem dX12_needless_20 : decode cX12_needless 20 = .ok (.if_icmp .ge 34, 3) := by decide +kernel
theorem dX12_needless_23 : decode cX12_needless 23 = .ok (.aload_n 0, 1) := by decide +kernel
theorem dX12_needless_24 : decode cX12_needless 24 = .ok (.getfield 61, 3) := by decide +kernel
theorem dX12_needless_27 : decode cX12_needless 27 = .ok (.iload_n 2, 1) := by decide +kernel
theorem dX12_needless_28 : decode cX12_needless 28 = .ok (.invokevirtual 147, 3) := by decide +kernel
theorem dX12_needless_31 : decode cX12_needless 31 = .ok (.getfield 151, 3) := by decide +kernel
theorem dX12_needless_34 : decode cX12_needless 34 = .ok (.ifCond .ne 14, 3) := by decide +kernel
theorem dX12_needless_37 : decode cX12_needless 37 = .ok (.aload_n 0, 1) := by decide +kernel
theorem dX12_needless_38 : decode cX12_needless 38 = .ok (.iload_n 2, 1) := by decide +kernel
theorem dX12_needless_39 : decode cX12_needless 39 = .ok (.iload_n 1, 1) := by decide +kernel
theorem dX12_needless_40 : decode cX12_needless 40 = .ok (.invokevirtual 171, 3) := by decide +kernel
theorem dX12_needless_43 : decode cX12_needless 43 = .ok (.ifCond .eq 5, 3) := by decide +kernel
theorem dX12_needless_46 : decode cX12_needless 46 = .ok (.iconst 1, 1) := by decide +kernel
theorem dX12_needless_47 : decode cX12_needless 47 = .ok (.ireturn, 1) := by decide +kernel
theorem dX12_needless_48 : decode cX12_needless 48 = .ok (.iinc 2 1, 3) := by decide +kernel
theorem dX12_needless_51 : decode cX12_needless 51 = .ok (.goto (-33), 3) := by decide +kernel
theorem dX12_needless_54 : decode cX12_needless 54 = .ok (.iconst 0, 1) := by decide +kernel
theorem dX12_needless_55 : decode cX12_needless 55 = .ok (.ireturn, 1) := by decide +kernel
theorem dX12_distanceIfShifted_0 : decode cX12_distanceIfShifted 0 = .ok (.aload_n 0, 1) := by decide +kernel
theorem dX12_distanceIfShifted_1 : decode cX12_distanceIfShifted 1 = .ok (.getfield 39, 3) := by decide +kernel
theorem dX12_distanceIfShifted_4 : decode cX12_distanceIfShifted 4 = .ok (.aload_n 0, 1) := by decide +kernel
theorem dX12_distanceIfShifted_5 : decode cX12_distanceIfShifted 5 = .ok (.getfield 35, 3) := by decide +kernel
theorem dX12_distanceIfShifted_8 : decode cX12_distanceIfShifted 8 = .ok (.invokevirtual 213, 3) := by decide +kernel
theorem dX12_distanceIfShifted_11 : decode cX12_distanceIfShifted 11 = .ok (.aload_n 0, 1) := by decide +kernel
theorem dX12_distanceIfShifted_12 : decode cX12_distanceIfShifted 12 = .ok (.getfield 39, 3) := by decide +kernel
theorem dX12_distanceIfShifted_15 : decode cX12_distanceIfShifted 15 = .ok (.iload_n 2, 1) := by decide +kernel
theorem dX12_distanceIfShifted_16 : decode cX12_distanceIfShifted 16 = .ok (.invokevirtual 217, 3) := by decide +kernel
theorem dX12_distanceIfShifted_19 : decode cX12_distanceIfShifted 19 = .ok (.pop, 1) := by decide +kernel
theorem dX12_distanceIfShifted_20 : decode cX12_distanceIfShifted 20 = .ok (.aload_n 0, 1) := by decide +kernel
theorem dX12_distanceIfShifted_21 : decode cX12_distanceIfShifted 21 = .ok (.getfield 28, 3) := by decide +kernel
theorem dX12_distanceIfShifted_24 : decode cX12_distanceIfShifted 24 = .ok (.aload_n 0, 1) := by decide +kernel
theorem dX12_distanceIfShifted_25 : decode cX12_distanceIfShifted 25 = .ok (.iload_n 1, 1) := by decide +kernel
theorem dX12_distanceIfShifted_26 : decode cX12_distanceIfShifted 26 = .ok (.invokevirtual 132, 3) := by decide +kernel
theorem dX12_distanceIfShifted_29 : decode cX12_distanceIfShifted 29 = .ok (.aload_n 0, 1) := by decide +kernel
theorem dX12_distanceIfShifted_30 : decode cX12_distanceIfShifted 30 = .ok (.getfield 39, 3) := by decide +kernel
theorem dX12_distanceIfShifted_33 : decode cX12_distanceIfShifted 33 = .ok (.aload_n 0, 1) := by decide +kernel
theorem dX12_distanceIfShifted_34 : decode cX12_distanceIfShifted 34 = .ok (.getfield 54, 3) := by decide +kernel
theorem dX12_distanceIfShifted_37 : decode cX12_distanceIfShifted 37 = .ok (.getfield 164, 3) := by decide +kernel
theorem dX12_distanceIfShifted_40 : decode cX12_distanceIfShifted 40 = .ok (.invokevirtual 261, 3) := by decide +kernel
theorem dX12_distanceIfShifted_43 : decode cX12_distanceIfShifted 43 = .ok (.ireturn, 1) := by decide +kernel
theorem dX12_digestOfWord_0 : decode cX12_digestOfWord 0 = .ok (.lload_n 1, 1) := by decide +kernel
theorem dX12_digestOfWord_1 : decode cX12_digestOfWord 1 = .ok (.lstore 4, 2) := by decide +kernel
theorem dX12_digestOfWord_3 : decode cX12_digestOfWord 3 = .ok (.lload 4, 2) := by decide +kernel
theorem dX12_digestOfWord_5 : decode cX12_digestOfWord 5 = .ok (.ldc2_w 235, 3) := by decide +kernel
theorem dX12_digestOfWord_8 : decode cX12_digestOfWord 8 = .ok (.lmul, 1) := by decide +kernel
theorem dX12_digestOfWord_9 : decode cX12_digestOfWord 9 = .ok (.aload_n 0, 1) := by decide +kernel
theorem dX12_digestOfWord_10 : decode cX12_digestOfWord 10 = .ok (.iload_n 3, 1) := by decide +kernel
theorem dX12_digestOfWord_11 : decode cX12_digestOfWord 11 = .ok (.invokevirtual 132, 3) := by decide +kernel
theorem dX12_digestOfWord_14 : decode cX12_digestOfWord 14 = .ok (.getfield 128, 3) := by decide +kernel
theorem dX12_digestOfWord_17 : decode cX12_digestOfWord 17 = .ok (.i2l, 1) := by decide +kernel
theorem dX12_digestOfWord_18 : decode cX12_digestOfWord 18 = .ok (.ladd, 1) := by decide +kernel
theorem dX12_digestOfWord_19 : decode cX12_digestOfWord 19 = .ok (.lstore 4, 2) := by decide +kernel
theorem dX12_digestOfWord_21 : decode cX12_digestOfWord 21 = .ok (.lload 4, 2) := by decide +kernel
theorem dX12_digestOfWord_23 : decode cX12_digestOfWord 23 = .ok (.ldc2_w 235, 3) := by decide +kernel
theorem dX12_digestOfWord_26 : decode cX12_digestOfWord 26 = .ok (.lmul, 1) := by decide +kernel
theorem dX12_digestOfWord_27 : decode cX12_digestOfWord 27 = .ok (.aload_n 0, 1) := by decide +kernel
theorem dX12_digestOfWord_28 : decode cX12_digestOfWord 28 = .ok (.getfield 61, 3) := by decide +kernel
theorem dX12_digestOfWord_31 : decode cX12_digestOfWord 31 = .ok (.iload_n 3, 1) := by decide +kernel
theorem dX12_digestOfWord_32 : decode cX12_digestOfWord 32 = .ok (.invokevirtual 147, 3) := by decide +kernel
theorem dX12_digestOfWord_35 : decode cX12_digestOfWord 35 = .ok (.getfield 151, 3) := by decide +kernel
theorem dX12_digestOfWord_38 : decode cX12_digestOfWord 38 = .ok (.ifCond .eq 7, 3) := by decide +kernel
theorem dX12_digestOfWord_41 : decode cX12_digestOfWord 41 = .ok (.iconst 1, 1) := by decide +kernel
theorem dX12_digestOfWord_42 : decode cX12_digestOfWord 42 = .ok (.goto 4, 3) := by decide +kernel
theorem dX12_digestOfWord_45 : decode cX12_digestOfWord 45 = .ok (.iconst 0, 1) := by decide +kernel
theorem dX12_digestOfWord_46 : decode cX12_digestOfWord 46 = .ok (.i2l, 1) := by decide +kernel
theorem dX12_digestOfWord_47 : decode cX12_digestOfWord 47 = .ok (.ladd, 1) := by decide +kernel
theorem dX12_digestOfWord_48 : decode cX12_digestOfWord 48 = .ok (.lstore 4, 2) := by decide +kernel
theorem dX12_digestOfWord_50 : decode cX12_digestOfWord 50 = .ok (.lload 4, 2) := by decide +kernel
theorem dX12_digestOfWord_52 : decode cX12_digestOfWord 52 = .ok (.ldc2_w 235, 3) := by decide +kernel
theorem dX12_digestOfWord_55 : decode cX12_digestOfWord 55 = .ok (.lmul, 1) := by decide +kernel
theorem dX12_digestOfWord_56 : decode cX12_digestOfWord 56 = .ok (.aload_n 0, 1) := by decide +kernel
theorem dX12_digestOfWord_57 : decode cX12_digestOfWord 57 = .ok (.iload_n 3, 1) := by decide +kernel
theorem dX12_digestOfWord_58 : decode cX12_digestOfWord 58 = .ok (.invokevirtual 177, 3) := by decide +kernel
theorem dX12_digestOfWord_61 : decode cX12_digestOfWord 61 = .ok (.ifCond .eq 7, 3) := by decide +kernel
theorem dX12_digestOfWord_64 : decode cX12_digestOfWord 64 = .ok (.iconst 1, 1) := by decide +kernel
theorem dX12_digestOfWord_65 : decode cX12_digestOfWord 65 = .ok (.goto 4, 3) := by decide +kernel
theorem dX12_digestOfWord_68 : decode cX12_digestOfWord 68 = .ok (.iconst 0, 1) := by decide +kernel
theorem dX12_digestOfWord_69 : decode cX12_digestOfWord 69 = .ok (.i2l, 1) := by decide +kernel
theorem dX12_digestOfWord_70 : decode cX12_digestOfWord 70 = .ok (.ladd, 1) := by decide +kernel
theorem dX12_digestOfWord_71 : decode cX12_digestOfWord 71 = .ok (.lstore 4, 2) := by decide +kernel
theorem dX12_digestOfWord_73 : decode cX12_digestOfWord 73 = .ok (.lload 4, 2) := by decide +kernel
theorem dX12_digestOfWord_75 : decode cX12_digestOfWord 75 = .ok (.aload_n 0, 1) := by decide +kernel
theorem dX12_digestOfWord_76 : decode cX12_digestOfWord 76 = .ok (.iload_n 3, 1) := by decide +kernel
theorem dX12_digestOfWord_77 : decode cX12_digestOfWord 77 = .ok (.invokevirtual 132, 3) := by decide +kernel
theorem dX12_digestOfWord_80 : decode cX12_digestOfWord 80 = .ok (.invokestatic 241, 3) := by decide +kernel
theorem dX12_digestOfWord_83 : decode cX12_digestOfWord 83 = .ok (.lstore 4, 2) := by decide +kernel
theorem dX12_digestOfWord_85 : decode cX12_digestOfWord 85 = .ok (.iconst 0, 1) := by decide +kernel
theorem dX12_digestOfWord_86 : decode cX12_digestOfWord 86 = .ok (.istore 6, 2) := by decide +kernel
theorem dX12_digestOfWord_88 : decode cX12_digestOfWord 88 = .ok (.iload 6, 2) := by decide +kernel
theorem dX12_digestOfWord_90 : decode cX12_digestOfWord 90 = .ok (.aload_n 0, 1) := by decide +kernel
theorem dX12_digestOfWord_91 : decode cX12_digestOfWord 91 = .ok (.getfield 61, 3) := by decide +kernel
theorem dX12_digestOfWord_94 : decode cX12_digestOfWord 94 = .ok (.getfield 114, 3) := by decide +kernel
theorem dX12_digestOfWord_97 : decode cX12_digestOfWord 97 = .ok (.if_icmp .ge 26, 3) := by decide +kernel
theorem dX12_digestOfWord_100 : decode cX12_digestOfWord 100 = .ok (.lload 4, 2) := by decide +kernel
theorem dX12_digestOfWord_102 : decode cX12_digestOfWord 102 = .ok (.ldc2_w 235, 3) := by decide +kernel
theorem dX12_digestOfWord_105 : decode cX12_digestOfWord 105 = .ok (.lmul, 1) := by decide +kernel
theorem dX12_digestOfWord_106 : decode cX12_digestOfWord 106 = .ok (.aload_n 0, 1) := by decide +kernel
theorem dX12_digestOfWord_107 : decode cX12_digestOfWord 107 = .ok (.iload_n 3, 1) := by decide +kernel
theorem dX12_digestOfWord_108 : decode cX12_digestOfWord 108 = .ok (.iload 6, 2) := by decide +kernel
theorem dX12_digestOfWord_110 : decode cX12_digestOfWord 110 = .ok (.invokevirtual 160, 3) := by decide +kernel
theorem dX12_digestOfWord_113 : decode cX12_digestOfWord 113 = .ok (.i2l, 1) := by decide +kernel
theorem dX12_digestOfWord_114 : decode cX12_digestOfWord 114 = .ok (.ladd, 1) := by decide +kernel
theorem dX12_digestOfWord_115 : decode cX12_digestOfWord 115 = .ok (.lstore 4, 2) := by decide +kernel
theorem dX12_digestOfWord_117 : decode cX12_digestOfWord 117 = .ok (.iinc 6 1, 3) := by decide +kernel
theorem dX12_digestOfWord_120 : decode cX12_digestOfWord 120 = .ok (.goto (-32), 3) := by decide +kernel
theorem dX12_digestOfWord_123 : decode cX12_digestOfWord 123 = .ok (.lload 4, 2) := by decide +kernel
theorem dX12_digestOfWord_125 : decode cX12_digestOfWord 125 = .ok (.lreturn, 1) := by decide +kernel
theorem dX12_digestOfRow_0 : decode cX12_digestOfRow 0 = .ok (.lload_n 0, 1) := by decide +kernel
theorem dX12_digestOfRow_1 : decode cX12_digestOfRow 1 = .ok (.lstore_n 3, 1) := by decide +kernel
theorem dX12_digestOfRow_2 : decode cX12_digestOfRow 2 = .ok (.iconst 0, 1) := by decide +kernel
theorem dX12_digestOfRow_3 : decode cX12_digestOfRow 3 = .ok (.istore 5, 2) := by decide +kernel
theorem dX12_digestOfRow_5 : decode cX12_digestOfRow 5 = .ok (.iload 5, 2) := by decide +kernel
theorem dX12_digestOfRow_7 : decode cX12_digestOfRow 7 = .ok (.aload_n 2, 1) := by decide +kernel
theorem dX12_digestOfRow_8 : decode cX12_digestOfRow 8 = .ok (.getfield 128, 3) := by decide +kernel
theorem dX12_digestOfRow_11 : decode cX12_digestOfRow 11 = .ok (.if_icmp .ge 23, 3) := by decide +kernel
theorem dX12_digestOfRow_14 : decode cX12_digestOfRow 14 = .ok (.lload_n 3, 1) := by decide +kernel
theorem dX12_digestOfRow_15 : decode cX12_digestOfRow 15 = .ok (.ldc2_w 235, 3) := by decide +kernel
theorem dX12_digestOfRow_18 : decode cX12_digestOfRow 18 = .ok (.lmul, 1) := by decide +kernel
theorem dX12_digestOfRow_19 : decode cX12_digestOfRow 19 = .ok (.aload_n 2, 1) := by decide +kernel
theorem dX12_digestOfRow_20 : decode cX12_digestOfRow 20 = .ok (.iload 5, 2) := by decide +kernel
theorem dX12_digestOfRow_22 : decode cX12_digestOfRow 22 = .ok (.invokevirtual 140, 3) := by decide +kernel
theorem dX12_digestOfRow_25 : decode cX12_digestOfRow 25 = .ok (.i2l, 1) := by decide +kernel
theorem dX12_digestOfRow_26 : decode cX12_digestOfRow 26 = .ok (.ladd, 1) := by decide +kernel
theorem dX12_digestOfRow_27 : decode cX12_digestOfRow 27 = .ok (.lstore_n 3, 1) := by decide +kernel
theorem dX12_digestOfRow_28 : decode cX12_digestOfRow 28 = .ok (.iinc 5 1, 3) := by decide +kernel
theorem dX12_digestOfRow_31 : decode cX12_digestOfRow 31 = .ok (.goto (-26), 3) := by decide +kernel
theorem dX12_digestOfRow_34 : decode cX12_digestOfRow 34 = .ok (.lload_n 3, 1) := by decide +kernel
theorem dX12_digestOfRow_35 : decode cX12_digestOfRow 35 = .ok (.lreturn, 1) := by decide +kernel
theorem dX12_quotient_0 : decode cX12_quotient 0 = .ok (.iload_n 1, 1) := by decide +kernel
theorem dX12_quotient_1 : decode cX12_quotient 1 = .ok (.ifCond .ne 7, 3) := by decide +kernel
theorem dX12_quotient_4 : decode cX12_quotient 4 = .ok (.iconst 0, 1) := by decide +kernel
theorem dX12_quotient_5 : decode cX12_quotient 5 = .ok (.goto 6, 3) := by decide +kernel
theorem dX12_quotient_8 : decode cX12_quotient 8 = .ok (.iload_n 0, 1) := by decide +kernel
theorem dX12_quotient_9 : decode cX12_quotient 9 = .ok (.iload_n 1, 1) := by decide +kernel
theorem dX12_quotient_10 : decode cX12_quotient 10 = .ok (.idiv, 1) := by decide +kernel
theorem dX12_quotient_11 : decode cX12_quotient 11 = .ok (.ireturn, 1) := by decide +kernel
