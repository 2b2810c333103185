theorem dX7_init_0 : decode cX7_init 0 = .ok (.aload_n 0, 1) := by decide +kernel
theorem dX7_init_1 : decode cX7_init 1 = .ok (.invokespecial 3, 3) := by decide +kernel
theorem dX7_init_4 : decode cX7_init 4 = .ok (.aload_n 0, 1) := by decide +kernel
theorem dX7_init_5 : decode cX7_init 5 = .ok (.sipush 200, 3) := by decide +kernel
theorem dX7_init_8 : decode cX7_init 8 = .ok (.newarray .int, 2) := by decide +kernel
theorem dX7_init_10 : decode cX7_init 10 = .ok (.putfield 9, 3) := by decide +kernel
theorem dX7_init_13 : decode cX7_init 13 = .ok (.aload_n 0, 1) := by decide +kernel
theorem dX7_init_14 : decode cX7_init 14 = .ok (.sipush 200, 3) := by decide +kernel
theorem dX7_init_17 : decode cX7_init 17 = .ok (.newarray .int, 2) := by decide +kernel
theorem dX7_init_19 : decode cX7_init 19 = .ok (.putfield 15, 3) := by decide +kernel
theorem dX7_init_22 : decode cX7_init 22 = .ok (.aload_n 0, 1) := by decide +kernel
theorem dX7_init_23 : decode cX7_init 23 = .ok (.sipush 200, 3) := by decide +kernel
theorem dX7_init_26 : decode cX7_init 26 = .ok (.newarray .int, 2) := by decide +kernel
theorem dX7_init_28 : decode cX7_init 28 = .ok (.putfield 18, 3) := by decide +kernel
theorem dX7_init_31 : decode cX7_init 31 = .ok (.aload_n 0, 1) := by decide +kernel
theorem dX7_init_32 : decode cX7_init 32 = .ok (.sipush 200, 3) := by decide +kernel
theorem dX7_init_35 : decode cX7_init 35 = .ok (.newarray .int, 2) := by decide +kernel
theorem dX7_init_37 : decode cX7_init 37 = .ok (.putfield 21, 3) := by decide +kernel
theorem dX7_init_40 : decode cX7_init 40 = .ok (.aload_n 0, 1) := by decide +kernel
theorem dX7_init_41 : decode cX7_init 41 = .ok (.aload_n 1, 1) := by decide +kernel
theorem dX7_init_42 : decode cX7_init 42 = .ok (.putfield 24, 3) := by decide +kernel
theorem dX7_init_45 : decode cX7_init 45 = .ok (.aload_n 0, 1) := by decide +kernel
theorem dX7_init_46 : decode cX7_init 46 = .ok (.aload_n 2, 1) := by decide +kernel
theorem dX7_init_47 : decode cX7_init 47 = .ok (.putfield 28, 3) := by decide +kernel
theorem dX7_init_50 : decode cX7_init 50 = .ok (.aload_n 0, 1) := by decide +kernel
theorem dX7_init_51 : decode cX7_init 51 = .ok (.aload_n 3, 1) := by decide +kernel
theorem dX7_init_52 : decode cX7_init 52 = .ok (.putfield 32, 3) := by decide +kernel
theorem dX7_init_55 : decode cX7_init 55 = .ok (.return_, 1) := by decide +kernel
theorem dX7_read_0 : decode cX7_read 0 = .ok (.aload_n 0, 1) := by decide +kernel
theorem dX7_read_1 : decode cX7_read 1 = .ok (.aload_n 1, 1) := by decide +kernel
theorem dX7_read_2 : decode cX7_read 2 = .ok (.putfield 32, 3) := by decide +kernel
theorem dX7_read_5 : decode cX7_read 5 = .ok (.aload_n 0, 1) := by decide +kernel
theorem dX7_read_6 : decode cX7_read 6 = .ok (.getfield 32, 3) := by decide +kernel
theorem dX7_read_9 : decode cX7_read 9 = .ok (.aload_n 0, 1) := by decide +kernel
theorem dX7_read_10 : decode cX7_read 10 = .ok (.getfield 24, 3) := by decide +kernel
theorem dX7_read_13 : decode cX7_read 13 = .ok (.invokevirtual 36, 3) := by decide +kernel
theorem dX7_read_16 : decode cX7_read 16 = .ok (.aload_n 0, 1) := by decide +kernel
theorem dX7_read_17 : decode cX7_read 17 = .ok (.iconst 0, 1) := by decide +kernel
theorem dX7_read_18 : decode cX7_read 18 = .ok (.putfield 42, 3) := by decide +kernel
theorem dX7_read_21 : decode cX7_read 21 = .ok (.iconst 0, 1) := by decide +kernel
theorem dX7_read_22 : decode cX7_read 22 = .ok (.istore_n 2, 1) := by decide +kernel
theorem dX7_read_23 : decode cX7_read 23 = .ok (.iload_n 2, 1) := by decide +kernel
theorem dX7_read_24 : decode cX7_read 24 = .ok (.sipush 200, 3) := by decide +kernel
theorem dX7_read_27 : decode cX7_read 27 = .ok (.if_icmp .gt 40, 3) := by decide +kernel
theorem dX7_read_30 : decode cX7_read 30 = .ok (.aload_n 0, 1) := by decide +kernel
theorem dX7_read_31 : decode cX7_read 31 = .ok (.invokevirtual 46, 3) := by decide +kernel
theorem dX7_read_34 : decode cX7_read 34 = .ok (.ifCond .eq 10, 3) := by decide +kernel
theorem dX7_read_37 : decode cX7_read 37 = .ok (.aload_n 0, 1) := by decide +kernel
theorem dX7_read_38 : decode cX7_read 38 = .ok (.invokevirtual 50, 3) := by decide +kernel
theorem dX7_read_41 : decode cX7_read 41 = .ok (.ifCond .ne 5, 3) := by decide +kernel
theorem dX7_read_44 : decode cX7_read 44 = .ok (.iconst 0, 1) := by decide +kernel
theorem dX7_read_45 : decode cX7_read 45 = .ok (.ireturn, 1) := by decide +kernel
theorem dX7_read_46 : decode cX7_read 46 = .ok (.aload_n 0, 1) := by decide +kernel
theorem dX7_read_47 : decode cX7_read 47 = .ok (.getfield 42, 3) := by decide +kernel
theorem dX7_read_50 : decode cX7_read 50 = .ok (.ifCond .ne 11, 3) := by decide +kernel
theorem dX7_read_53 : decode cX7_read 53 = .ok (.aload_n 0, 1) := by decide +kernel
theorem dX7_read_54 : decode cX7_read 54 = .ok (.getfield 24, 3) := by decide +kernel
theorem dX7_read_57 : decode cX7_read 57 = .ok (.invokevirtual 53, 3) := by decide +kernel
theorem dX7_read_60 : decode cX7_read 60 = .ok (.ireturn, 1) := by decide +kernel
theorem dX7_read_61 : decode cX7_read 61 = .ok (.iinc 2 1, 3) := by decide +kernel
theorem dX7_read_64 : decode cX7_read 64 = .ok (.goto (-41), 3) := by decide +kernel
theorem dX7_read_67 : decode cX7_read 67 = .ok (.iconst 0, 1) := by decide +kernel
theorem dX7_read_68 : decode cX7_read 68 = .ok (.ireturn, 1) := by decide +kernel
theorem dX7_wordAround_0 : decode cX7_wordAround 0 = .ok (.aload_n 0, 1) := by decide +kernel
theorem dX7_wordAround_1 : decode cX7_wordAround 1 = .ok (.getfield 42, 3) := by decide +kernel
theorem dX7_wordAround_4 : decode cX7_wordAround 4 = .ok (.ifCond .le 24, 3) := by decide +kernel
theorem dX7_wordAround_7 : decode cX7_wordAround 7 = .ok (.aload_n 0, 1) := by decide +kernel
theorem dX7_wordAround_8 : decode cX7_wordAround 8 = .ok (.getfield 32, 3) := by decide +kernel
theorem dX7_wordAround_11 : decode cX7_wordAround 11 = .ok (.aload_n 0, 1) := by decide +kernel
theorem dX7_wordAround_12 : decode cX7_wordAround 12 = .ok (.getfield 9, 3) := by decide +kernel
theorem dX7_wordAround_15 : decode cX7_wordAround 15 = .ok (.aload_n 0, 1) := by decide +kernel
theorem dX7_wordAround_16 : decode cX7_wordAround 16 = .ok (.getfield 42, 3) := by decide +kernel
theorem dX7_wordAround_19 : decode cX7_wordAround 19 = .ok (.iconst 1, 1) := by decide +kernel
theorem dX7_wordAround_20 : decode cX7_wordAround 20 = .ok (.isub, 1) := by decide +kernel
theorem dX7_wordAround_21 : decode cX7_wordAround 21 = .ok (.iaload, 1) := by decide +kernel
theorem dX7_wordAround_22 : decode cX7_wordAround 22 = .ok (.invokevirtual 58, 3) := by decide +kernel
theorem dX7_wordAround_25 : decode cX7_wordAround 25 = .ok (.goto 4, 3) := by decide +kernel
theorem dX7_wordAround_28 : decode cX7_wordAround 28 = .ok (.iconst (-1), 1) := by decide +kernel
theorem dX7_wordAround_29 : decode cX7_wordAround 29 = .ok (.ireturn, 1) := by decide +kernel
theorem dX7_isCase_0 : decode cX7_isCase 0 = .ok (.aload_n 0, 1) := by decide +kernel
theorem dX7_isCase_1 : decode cX7_isCase 1 = .ok (.getfield 42, 3) := by decide +kernel
theorem dX7_isCase_4 : decode cX7_isCase 4 = .ok (.ifCond .le 31, 3) := by decide +kernel
theorem dX7_isCase_7 : decode cX7_isCase 7 = .ok (.aload_n 0, 1) := by decide +kernel
theorem dX7_isCase_8 : decode cX7_isCase 8 = .ok (.invokevirtual 62, 3) := by decide +kernel
theorem dX7_isCase_11 : decode cX7_isCase 11 = .ok (.bipush 32, 2) := by decide +kernel
theorem dX7_isCase_13 : decode cX7_isCase 13 = .ok (.if_icmp .ne 22, 3) := by decide +kernel
theorem dX7_isCase_16 : decode cX7_isCase 16 = .ok (.aload_n 0, 1) := by decide +kernel
theorem dX7_isCase_17 : decode cX7_isCase 17 = .ok (.getfield 15, 3) := by decide +kernel
theorem dX7_isCase_20 : decode cX7_isCase 20 = .ok (.aload_n 0, 1) := by decide +kernel
theorem dX7_isCase_21 : decode cX7_isCase 21 = .ok (.getfield 42, 3) := by decide +kernel
theorem dX7_isCase_24 : decode cX7_isCase 24 = .ok (.iconst 1, 1) := by decide +kernel
theorem dX7_isCase_25 : decode cX7_isCase 25 = .ok (.isub, 1) := by decide +kernel
theorem dX7_isCase_26 : decode cX7_isCase 26 = .ok (.iaload, 1) := by decide +kernel
theorem dX7_isCase_27 : decode cX7_isCase 27 = .ok (.iconst 1, 1) := by decide +kernel
theorem dX7_isCase_28 : decode cX7_isCase 28 = .ok (.if_icmp .le 7, 3) := by decide +kernel
theorem dX7_isCase_31 : decode cX7_isCase 31 = .ok (.iconst 1, 1) := by decide +kernel
theorem dX7_isCase_32 : decode cX7_isCase 32 = .ok (.goto 4, 3) := by decide +kernel
theorem dX7_isCase_35 : decode cX7_isCase 35 = .ok (.iconst 0, 1) := by decide +kernel
theorem dX7_isCase_36 : decode cX7_isCase 36 = .ok (.ireturn, 1) := by decide +kernel
theorem dX7_readLabel_0 : decode cX7_readLabel 0 = .ok (.aload_n 0, 1) := by decide +kernel
theorem dX7_readLabel_1 : decode cX7_readLabel 1 = .ok (.getfield 42, 3) := by decide +kernel
theorem dX7_readLabel_4 : decode cX7_readLabel 4 = .ok (.iconst 1, 1) := by decide +kernel
theorem dX7_readLabel_5 : decode cX7_readLabel 5 = .ok (.isub, 1) := by decide +kernel
theorem dX7_readLabel_6 : decode cX7_readLabel 6 = .ok (.istore_n 1, 1) := by decide +kernel
theorem dX7_readLabel_7 : decode cX7_readLabel 7 = .ok (.iload_n 1, 1) := by decide +kernel
theorem dX7_readLabel_8 : decode cX7_readLabel 8 = .ok (.ifCond .lt 19, 3) := by decide +kernel
theorem dX7_readLabel_11 : decode cX7_readLabel 11 = .ok (.aload_n 0, 1) := by decide +kernel
theorem dX7_readLabel_12 : decode cX7_readLabel 12 = .ok (.invokevirtual 62, 3) := by decide +kernel
theorem dX7_readLabel_15 : decode cX7_readLabel 15 = .ok (.bipush 29, 2) := by decide +kernel
theorem dX7_readLabel_17 : decode cX7_readLabel 17 = .ok (.if_icmp .eq 12, 3) := by decide +kernel
theorem dX7_readLabel_20 : decode cX7_readLabel 20 = .ok (.aload_n 0, 1) := by decide +kernel
theorem dX7_readLabel_21 : decode cX7_readLabel 21 = .ok (.invokevirtual 66, 3) := by decide +kernel
theorem dX7_readLabel_24 : decode cX7_readLabel 24 = .ok (.ifCond .ne 5, 3) := by decide +kernel
theorem dX7_readLabel_27 : decode cX7_readLabel 27 = .ok (.iconst 1, 1) := by decide +kernel
theorem dX7_readLabel_28 : decode cX7_readLabel 28 = .ok (.ireturn, 1) := by decide +kernel
theorem dX7_readLabel_29 : decode cX7_readLabel 29 = .ok (.aload_n 0, 1) := by decide +kernel
theorem dX7_readLabel_30 : decode cX7_readLabel 30 = .ok (.getfield 24, 3) := by decide +kernel
theorem dX7_readLabel_33 : decode cX7_readLabel 33 = .ok (.aload_n 0, 1) := by decide +kernel
theorem dX7_readLabel_34 : decode cX7_readLabel 34 = .ok (.getfield 18, 3) := by decide +kernel
theorem dX7_readLabel_37 : decode cX7_readLabel 37 = .ok (.iload_n 1, 1) := by decide +kernel
theorem dX7_readLabel_38 : decode cX7_readLabel 38 = .ok (.iaload, 1) := by decide +kernel
theorem dX7_readLabel_39 : decode cX7_readLabel 39 = .ok (.iconst 1, 1) := by decide +kernel
theorem dX7_readLabel_40 : decode cX7_readLabel 40 = .ok (.iadd, 1) := by decide +kernel
theorem dX7_readLabel_41 : decode cX7_readLabel 41 = .ok (.bipush 7, 2) := by decide +kernel
theorem dX7_readLabel_43 : decode cX7_readLabel 43 = .ok (.invokevirtual 69, 3) := by decide +kernel
theorem dX7_readLabel_46 : decode cX7_readLabel 46 = .ok (.ifCond .ne 5, 3) := by decide +kernel
theorem dX7_readLabel_49 : decode cX7_readLabel 49 = .ok (.iconst 0, 1) := by decide +kernel
theorem dX7_readLabel_50 : decode cX7_readLabel 50 = .ok (.ireturn, 1) := by decide +kernel
theorem dX7_readLabel_51 : decode cX7_readLabel 51 = .ok (.aload_n 0, 1) := by decide +kernel
theorem dX7_readLabel_52 : decode cX7_readLabel 52 = .ok (.getfield 18, 3) := by decide +kernel
theorem dX7_readLabel_55 : decode cX7_readLabel 55 = .ok (.iload_n 1, 1) := by decide +kernel
theorem dX7_readLabel_56 : decode cX7_readLabel 56 = .ok (.aload_n 0, 1) := by decide +kernel
theorem dX7_readLabel_57 : decode cX7_readLabel 57 = .ok (.getfield 24, 3) := by decide +kernel
theorem dX7_readLabel_60 : decode cX7_readLabel 60 = .ok (.invokevirtual 73, 3) := by decide +kernel
theorem dX7_readLabel_63 : decode cX7_readLabel 63 = .ok (.iastore, 1) := by decide +kernel
theorem dX7_readLabel_64 : decode cX7_readLabel 64 = .ok (.iconst 1, 1) := by decide +kernel
theorem dX7_readLabel_65 : decode cX7_readLabel 65 = .ok (.ireturn, 1) := by decide +kernel
theorem dX7_readTerm_0 : decode cX7_readTerm 0 = .ok (.aload_n 0, 1) := by decide +kernel
theorem dX7_readTerm_1 : decode cX7_readTerm 1 = .ok (.getfield 24, 3) := by decide +kernel
theorem dX7_readTerm_4 : decode cX7_readTerm 4 = .ok (.invokevirtual 76, 3) := by decide +kernel
theorem dX7_readTerm_7 : decode cX7_readTerm 7 = .ok (.istore_n 1, 1) := by decide +kernel
theorem dX7_readTerm_8 : decode cX7_readTerm 8 = .ok (.aload_n 0, 1) := by decide +kernel
theorem dX7_readTerm_9 : decode cX7_readTerm 9 = .ok (.invokevirtual 62, 3) := by decide +kernel
theorem dX7_readTerm_12 : decode cX7_readTerm 12 = .ok (.bipush 33, 2) := by decide +kernel
theorem dX7_readTerm_14 : decode cX7_readTerm 14 = .ok (.if_icmp .ne 7, 3) := by decide +kernel
theorem dX7_readTerm_17 : decode cX7_readTerm 17 = .ok (.iconst 1, 1) := by decide +kernel
theorem dX7_readTerm_18 : decode cX7_readTerm 18 = .ok (.goto 4, 3) := by decide +kernel
theorem dX7_readTerm_21 : decode cX7_readTerm 21 = .ok (.iconst 0, 1) := by decide +kernel
theorem dX7_readTerm_22 : decode cX7_readTerm 22 = .ok (.istore_n 2, 1) := by decide +kernel
theorem dX7_readTerm_23 : decode cX7_readTerm 23 = .ok (.aload_n 0, 1) := by decide +kernel
theorem dX7_readTerm_24 : decode cX7_readTerm 24 = .ok (.getfield 24, 3) := by decide +kernel
theorem dX7_readTerm_27 : decode cX7_readTerm 27 = .ok (.iload_n 2, 1) := by decide +kernel
theorem dX7_readTerm_28 : decode cX7_readTerm 28 = .ok (.ifCond .eq 8, 3) := by decide +kernel
theorem dX7_readTerm_31 : decode cX7_readTerm 31 = .ok (.bipush 21, 2) := by decide +kernel
theorem dX7_readTerm_33 : decode cX7_readTerm 33 = .ok (.goto 5, 3) := by decide +kernel
theorem dX7_readTerm_36 : decode cX7_readTerm 36 = .ok (.bipush 20, 2) := by decide +kernel
theorem dX7_readTerm_38 : decode cX7_readTerm 38 = .ok (.iload_n 2, 1) := by decide +kernel
theorem dX7_readTerm_39 : decode cX7_readTerm 39 = .ok (.ifCond .eq 8, 3) := by decide +kernel
theorem dX7_readTerm_42 : decode cX7_readTerm 42 = .ok (.bipush 21, 2) := by decide +kernel
theorem dX7_readTerm_44 : decode cX7_readTerm 44 = .ok (.goto 5, 3) := by decide +kernel
theorem dX7_readTerm_47 : decode cX7_readTerm 47 = .ok (.bipush 33, 2) := by decide +kernel
theorem dX7_readTerm_49 : decode cX7_readTerm 49 = .ok (.invokevirtual 69, 3) := by decide +kernel
theorem dX7_readTerm_52 : decode cX7_readTerm 52 = .ok (.ifCond .ne 5, 3) := by decide +kernel
theorem dX7_readTerm_55 : decode cX7_readTerm 55 = .ok (.iconst 0, 1) := by decide +kernel
theorem dX7_readTerm_56 : decode cX7_readTerm 56 = .ok (.ireturn, 1) := by decide +kernel
theorem dX7_readTerm_57 : decode cX7_readTerm 57 = .ok (.aload_n 0, 1) := by decide +kernel
theorem dX7_readTerm_58 : decode cX7_readTerm 58 = .ok (.iload_n 1, 1) := by decide +kernel
theorem dX7_readTerm_59 : decode cX7_readTerm 59 = .ok (.invokevirtual 79, 3) := by decide +kernel
theorem dX7_readTerm_62 : decode cX7_readTerm 62 = .ok (.istore_n 3, 1) := by decide +kernel
theorem dX7_readTerm_63 : decode cX7_readTerm 63 = .ok (.aload_n 0, 1) := by decide +kernel
theorem dX7_readTerm_64 : decode cX7_readTerm 64 = .ok (.iload_n 1, 1) := by decide +kernel
theorem dX7_readTerm_65 : decode cX7_readTerm 65 = .ok (.aload_n 0, 1) := by decide +kernel
theorem dX7_readTerm_66 : decode cX7_readTerm 66 = .ok (.getfield 24, 3) := by decide +kernel
theorem dX7_readTerm_69 : decode cX7_readTerm 69 = .ok (.invokevirtual 73, 3) := by decide +kernel
theorem dX7_readTerm_72 : decode cX7_readTerm 72 = .ok (.iload_n 3, 1) := by decide +kernel
theorem dX7_readTerm_73 : decode cX7_readTerm 73 = .ok (.invokevirtual 82, 3) := by decide +kernel
theorem dX7_readTerm_76 : decode cX7_readTerm 76 = .ok (.istore 4, 2) := by decide +kernel
theorem dX7_readTerm_78 : decode cX7_readTerm 78 = .ok (.iload 4, 2) := by decide +kernel
theorem dX7_readTerm_80 : decode cX7_readTerm 80 = .ok (.iconst (-1), 1) := by decide +kernel
theorem dX7_readTerm_81 : decode cX7_readTerm 81 = .ok (.if_icmp .ne 5, 3) := by decide +kernel
theorem dX7_readTerm_84 : decode cX7_readTerm 84 = .ok (.iconst 0, 1) := by decide +kernel
theorem dX7_readTerm_85 : decode cX7_readTerm 85 = .ok (.ireturn, 1) := by decide +kernel
theorem dX7_readTerm_86 : decode cX7_readTerm 86 = .ok (.iload 4, 2) := by decide +kernel
theorem dX7_readTerm_88 : decode cX7_readTerm 88 = .ok (.ifCond .le 14, 3) := by decide +kernel
theorem dX7_readTerm_91 : decode cX7_readTerm 91 = .ok (.aload_n 0, 1) := by decide +kernel
theorem dX7_readTerm_92 : decode cX7_readTerm 92 = .ok (.iload_n 1, 1) := by decide +kernel
theorem dX7_readTerm_93 : decode cX7_readTerm 93 = .ok (.iload 4, 2) := by decide +kernel
theorem dX7_readTerm_95 : decode cX7_readTerm 95 = .ok (.iload_n 3, 1) := by decide +kernel
theorem dX7_readTerm_96 : decode cX7_readTerm 96 = .ok (.invokevirtual 86, 3) := by decide +kernel
theorem dX7_readTerm_99 : decode cX7_readTerm 99 = .ok (.goto 7, 3) := by decide +kernel
theorem dX7_readTerm_102 : decode cX7_readTerm 102 = .ok (.aload_n 0, 1) := by decide +kernel
theorem dX7_readTerm_103 : decode cX7_readTerm 103 = .ok (.invokevirtual 90, 3) := by decide +kernel
theorem dX7_readTerm_106 : decode cX7_readTerm 106 = .ok (.iconst 1, 1) := by decide +kernel
theorem dX7_readTerm_107 : decode cX7_readTerm 107 = .ok (.ireturn, 1) := by decide +kernel
theorem dX7_enter_0 : decode cX7_enter 0 = .ok (.aload_n 0, 1) := by decide +kernel
theorem dX7_enter_1 : decode cX7_enter 1 = .ok (.getfield 32, 3) := by decide +kernel
theorem dX7_enter_4 : decode cX7_enter 4 = .ok (.iload_n 1, 1) := by decide +kernel
theorem dX7_enter_5 : decode cX7_enter 5 = .ok (.invokevirtual 93, 3) := by decide +kernel
theorem dX7_enter_8 : decode cX7_enter 8 = .ok (.aload_n 0, 1) := by decide +kernel
theorem dX7_enter_9 : decode cX7_enter 9 = .ok (.getfield 42, 3) := by decide +kernel
theorem dX7_enter_12 : decode cX7_enter 12 = .ok (.iconst 1, 1) := by decide +kernel
theorem dX7_enter_13 : decode cX7_enter 13 = .ok (.isub, 1) := by decide +kernel
theorem dX7_enter_14 : decode cX7_enter 14 = .ok (.istore_n 2, 1) := by decide +kernel
theorem dX7_enter_15 : decode cX7_enter 15 = .ok (.iload_n 2, 1) := by decide +kernel
theorem dX7_enter_16 : decode cX7_enter 16 = .ok (.ifCond .ge 5, 3) := by decide +kernel
theorem dX7_enter_19 : decode cX7_enter 19 = .ok (.iconst (-1), 1) := by decide +kernel
theorem dX7_enter_20 : decode cX7_enter 20 = .ok (.ireturn, 1) := by decide +kernel
theorem dX7_enter_21 : decode cX7_enter 21 = .ok (.aload_n 0, 1) := by decide +kernel
theorem dX7_enter_22 : decode cX7_enter 22 = .ok (.getfield 21, 3) := by decide +kernel
theorem dX7_enter_25 : decode cX7_enter 25 = .ok (.iload_n 2, 1) := by decide +kernel
theorem dX7_enter_26 : decode cX7_enter 26 = .ok (.iaload, 1) := by decide +kernel
theorem dX7_enter_27 : decode cX7_enter 27 = .ok (.istore_n 3, 1) := by decide +kernel
theorem dX7_enter_28 : decode cX7_enter 28 = .ok (.aload_n 0, 1) := by decide +kernel
theorem dX7_enter_29 : decode cX7_enter 29 = .ok (.getfield 32, 3) := by decide +kernel
theorem dX7_enter_32 : decode cX7_enter 32 = .ok (.aload_n 0, 1) := by decide +kernel
theorem dX7_enter_33 : decode cX7_enter 33 = .ok (.getfield 9, 3) := by decide +kernel
theorem dX7_enter_36 : decode cX7_enter 36 = .ok (.iload_n 2, 1) := by decide +kernel
theorem dX7_enter_37 : decode cX7_enter 37 = .ok (.iaload, 1) := by decide +kernel
theorem dX7_enter_38 : decode cX7_enter 38 = .ok (.iload_n 1, 1) := by decide +kernel
theorem dX7_enter_39 : decode cX7_enter 39 = .ok (.invokevirtual 97, 3) := by decide +kernel
theorem dX7_enter_42 : decode cX7_enter 42 = .ok (.aload_n 0, 1) := by decide +kernel
theorem dX7_enter_43 : decode cX7_enter 43 = .ok (.invokevirtual 62, 3) := by decide +kernel
theorem dX7_enter_46 : decode cX7_enter 46 = .ok (.istore 4, 2) := by decide +kernel
theorem dX7_enter_48 : decode cX7_enter 48 = .ok (.iload 4, 2) := by decide +kernel
theorem dX7_enter_50 : decode cX7_enter 50 = .ok (.bipush 21, 2) := by decide +kernel
theorem dX7_enter_52 : decode cX7_enter 52 = .ok (.if_icmp .eq 17, 3) := by decide +kernel
theorem dX7_enter_55 : decode cX7_enter 55 = .ok (.iload 4, 2) := by decide +kernel
theorem dX7_enter_57 : decode cX7_enter 57 = .ok (.bipush 33, 2) := by decide +kernel
theorem dX7_enter_59 : decode cX7_enter 59 = .ok (.if_icmp .eq 10, 3) := by decide +kernel
theorem dX7_enter_62 : decode cX7_enter 62 = .ok (.aload_n 0, 1) := by decide +kernel
theorem dX7_enter_63 : decode cX7_enter 63 = .ok (.invokevirtual 66, 3) := by decide +kernel
theorem dX7_enter_66 : decode cX7_enter 66 = .ok (.ifCond .eq 14, 3) := by decide +kernel
theorem dX7_enter_69 : decode cX7_enter 69 = .ok (.aload_n 0, 1) := by decide +kernel
theorem dX7_enter_70 : decode cX7_enter 70 = .ok (.getfield 32, 3) := by decide +kernel
theorem dX7_enter_73 : decode cX7_enter 73 = .ok (.iload_n 1, 1) := by decide +kernel
theorem dX7_enter_74 : decode cX7_enter 74 = .ok (.iload_n 3, 1) := by decide +kernel
theorem dX7_enter_75 : decode cX7_enter 75 = .ok (.invokevirtual 101, 3) := by decide +kernel
theorem dX7_enter_78 : decode cX7_enter 78 = .ok (.iload_n 1, 1) := by decide +kernel
theorem dX7_enter_79 : decode cX7_enter 79 = .ok (.ireturn, 1) := by decide +kernel
theorem dX7_enter_80 : decode cX7_enter 80 = .ok (.iload_n 3, 1) := by decide +kernel
theorem dX7_enter_81 : decode cX7_enter 81 = .ok (.ireturn, 1) := by decide +kernel
theorem dX7_readHead_0 : decode cX7_readHead 0 = .ok (.iload_n 2, 1) := by decide +kernel
theorem dX7_readHead_1 : decode cX7_readHead 1 = .ok (.tableswitch 221 20 33 #[71, 86, 219, 112, 219, 219, 221, 221, 217, 132, 184, 203, 157, 86], 71) := by decide +kernel
theorem dX7_readHead_72 : decode cX7_readHead 72 = .ok (.aload_n 0, 1) := by decide +kernel
theorem dX7_readHead_73 : decode cX7_readHead 73 = .ok (.iload_n 1, 1) := by decide +kernel
theorem dX7_readHead_74 : decode cX7_readHead 74 = .ok (.iload_n 3, 1) := by decide +kernel
theorem dX7_readHead_75 : decode cX7_readHead 75 = .ok (.invokevirtual 104, 3) := by decide +kernel
theorem dX7_readHead_78 : decode cX7_readHead 78 = .ok (.ifCond .eq 7, 3) := by decide +kernel
theorem dX7_readHead_81 : decode cX7_readHead 81 = .ok (.iconst 0, 1) := by decide +kernel
theorem dX7_readHead_82 : decode cX7_readHead 82 = .ok (.goto 4, 3) := by decide +kernel
theorem dX7_readHead_85 : decode cX7_readHead 85 = .ok (.iconst (-1), 1) := by decide +kernel
theorem dX7_readHead_86 : decode cX7_readHead 86 = .ok (.ireturn, 1) := by decide +kernel
theorem dX7_readHead_87 : decode cX7_readHead 87 = .ok (.aload_n 0, 1) := by decide +kernel
theorem dX7_readHead_88 : decode cX7_readHead 88 = .ok (.getfield 24, 3) := by decide +kernel
theorem dX7_readHead_91 : decode cX7_readHead 91 = .ok (.iconst 0, 1) := by decide +kernel
theorem dX7_readHead_92 : decode cX7_readHead 92 = .ok (.aload_n 0, 1) := by decide +kernel
theorem dX7_readHead_93 : decode cX7_readHead 93 = .ok (.getfield 28, 3) := by decide +kernel
theorem dX7_readHead_96 : decode cX7_readHead 96 = .ok (.invokevirtual 107, 3) := by decide +kernel
theorem dX7_readHead_99 : decode cX7_readHead 99 = .ok (.iconst 1, 1) := by decide +kernel
theorem dX7_readHead_100 : decode cX7_readHead 100 = .ok (.isub, 1) := by decide +kernel
theorem dX7_readHead_101 : decode cX7_readHead 101 = .ok (.invokevirtual 69, 3) := by decide +kernel
theorem dX7_readHead_104 : decode cX7_readHead 104 = .ok (.ifCond .eq 7, 3) := by decide +kernel
theorem dX7_readHead_107 : decode cX7_readHead 107 = .ok (.iconst 1, 1) := by decide +kernel
theorem dX7_readHead_108 : decode cX7_readHead 108 = .ok (.goto 4, 3) := by decide +kernel
theorem dX7_readHead_111 : decode cX7_readHead 111 = .ok (.iconst (-1), 1) := by decide +kernel
theorem dX7_readHead_112 : decode cX7_readHead 112 = .ok (.ireturn, 1) := by decide +kernel
theorem dX7_readHead_113 : decode cX7_readHead 113 = .ok (.aload_n 0, 1) := by decide +kernel
theorem dX7_readHead_114 : decode cX7_readHead 114 = .ok (.getfield 24, 3) := by decide +kernel
theorem dX7_readHead_117 : decode cX7_readHead 117 = .ok (.ldc 112, 2) := by decide +kernel
theorem dX7_readHead_119 : decode cX7_readHead 119 = .ok (.ldc 113, 2) := by decide +kernel
theorem dX7_readHead_121 : decode cX7_readHead 121 = .ok (.invokevirtual 69, 3) := by decide +kernel
theorem dX7_readHead_124 : decode cX7_readHead 124 = .ok (.ifCond .eq 7, 3) := by decide +kernel
theorem dX7_readHead_127 : decode cX7_readHead 127 = .ok (.iconst 0, 1) := by decide +kernel
theorem dX7_readHead_128 : decode cX7_readHead 128 = .ok (.goto 4, 3) := by decide +kernel
theorem dX7_readHead_131 : decode cX7_readHead 131 = .ok (.iconst (-1), 1) := by decide +kernel
theorem dX7_readHead_132 : decode cX7_readHead 132 = .ok (.ireturn, 1) := by decide +kernel
theorem dX7_readHead_133 : decode cX7_readHead 133 = .ok (.aload_n 0, 1) := by decide +kernel
theorem dX7_readHead_134 : decode cX7_readHead 134 = .ok (.getfield 24, 3) := by decide +kernel
theorem dX7_readHead_137 : decode cX7_readHead 137 = .ok (.iconst 0, 1) := by decide +kernel
theorem dX7_readHead_138 : decode cX7_readHead 138 = .ok (.bipush 8, 2) := by decide +kernel
theorem dX7_readHead_140 : decode cX7_readHead 140 = .ok (.invokevirtual 69, 3) := by decide +kernel
theorem dX7_readHead_143 : decode cX7_readHead 143 = .ok (.ifCond .eq 13, 3) := by decide +kernel
theorem dX7_readHead_146 : decode cX7_readHead 146 = .ok (.aload_n 0, 1) := by decide +kernel
theorem dX7_readHead_147 : decode cX7_readHead 147 = .ok (.getfield 24, 3) := by decide +kernel
theorem dX7_readHead_150 : decode cX7_readHead 150 = .ok (.invokevirtual 73, 3) := by decide +kernel
theorem dX7_readHead_153 : decode cX7_readHead 153 = .ok (.goto 4, 3) := by decide +kernel
theorem dX7_readHead_156 : decode cX7_readHead 156 = .ok (.iconst (-1), 1) := by decide +kernel
theorem dX7_readHead_157 : decode cX7_readHead 157 = .ok (.ireturn, 1) := by decide +kernel
theorem dX7_readHead_158 : decode cX7_readHead 158 = .ok (.aload_n 0, 1) := by decide +kernel
theorem dX7_readHead_159 : decode cX7_readHead 159 = .ok (.getfield 24, 3) := by decide +kernel
theorem dX7_readHead_162 : decode cX7_readHead 162 = .ok (.iconst 0, 1) := by decide +kernel
theorem dX7_readHead_163 : decode cX7_readHead 163 = .ok (.bipush 8, 2) := by decide +kernel
theorem dX7_readHead_165 : decode cX7_readHead 165 = .ok (.invokevirtual 69, 3) := by decide +kernel
theorem dX7_readHead_168 : decode cX7_readHead 168 = .ok (.ifCond .eq 15, 3) := by decide +kernel
theorem dX7_readHead_171 : decode cX7_readHead 171 = .ok (.aload_n 0, 1) := by decide +kernel
theorem dX7_readHead_172 : decode cX7_readHead 172 = .ok (.getfield 24, 3) := by decide +kernel
theorem dX7_readHead_175 : decode cX7_readHead 175 = .ok (.invokevirtual 73, 3) := by decide +kernel
theorem dX7_readHead_178 : decode cX7_readHead 178 = .ok (.iconst 1, 1) := by decide +kernel
theorem dX7_readHead_179 : decode cX7_readHead 179 = .ok (.iadd, 1) := by decide +kernel
theorem dX7_readHead_180 : decode cX7_readHead 180 = .ok (.goto 4, 3) := by decide +kernel
theorem dX7_readHead_183 : decode cX7_readHead 183 = .ok (.iconst (-1), 1) := by decide +kernel
theorem dX7_readHead_184 : decode cX7_readHead 184 = .ok (.ireturn, 1) := by decide +kernel
theorem dX7_readHead_185 : decode cX7_readHead 185 = .ok (.aload_n 0, 1) := by decide +kernel
theorem dX7_readHead_186 : decode cX7_readHead 186 = .ok (.getfield 24, 3) := by decide +kernel
theorem dX7_readHead_189 : decode cX7_readHead 189 = .ok (.iconst 0, 1) := by decide +kernel
theorem dX7_readHead_190 : decode cX7_readHead 190 = .ok (.bipush 7, 2) := by decide +kernel
theorem dX7_readHead_192 : decode cX7_readHead 192 = .ok (.invokevirtual 69, 3) := by decide +kernel
theorem dX7_readHead_195 : decode cX7_readHead 195 = .ok (.ifCond .eq 7, 3) := by decide +kernel
theorem dX7_readHead_198 : decode cX7_readHead 198 = .ok (.iconst 1, 1) := by decide +kernel
theorem dX7_readHead_199 : decode cX7_readHead 199 = .ok (.goto 4, 3) := by decide +kernel
theorem dX7_readHead_202 : decode cX7_readHead 202 = .ok (.iconst (-1), 1) := by decide +kernel
theorem dX7_readHead_203 : decode cX7_readHead 203 = .ok (.ireturn, 1) := by decide +kernel
theorem dX7_readHead_204 : decode cX7_readHead 204 = .ok (.aload_n 0, 1) := by decide +kernel
theorem dX7_readHead_205 : decode cX7_readHead 205 = .ok (.iload_n 1, 1) := by decide +kernel
theorem dX7_readHead_206 : decode cX7_readHead 206 = .ok (.invokevirtual 114, 3) := by decide +kernel
theorem dX7_readHead_209 : decode cX7_readHead 209 = .ok (.ifCond .eq 7, 3) := by decide +kernel
theorem dX7_readHead_212 : decode cX7_readHead 212 = .ok (.iconst 1, 1) := by decide +kernel
theorem dX7_readHead_213 : decode cX7_readHead 213 = .ok (.goto 4, 3) := by decide +kernel
theorem dX7_readHead_216 : decode cX7_readHead 216 = .ok (.iconst (-1), 1) := by decide +kernel
theorem dX7_readHead_217 : decode cX7_readHead 217 = .ok (.ireturn, 1) := by decide +kernel
theorem dX7_readHead_218 : decode cX7_readHead 218 = .ok (.iconst 3, 1) := by decide +kernel
theorem dX7_readHead_219 : decode cX7_readHead 219 = .ok (.ireturn, 1) := by decide +kernel
theorem dX7_readHead_220 : decode cX7_readHead 220 = .ok (.iconst 2, 1) := by decide +kernel
theorem dX7_readHead_221 : decode cX7_readHead 221 = .ok (.ireturn, 1) := by decide +kernel
theorem dX7_readHead_222 : decode cX7_readHead 222 = .ok (.iconst 0, 1) := by decide +kernel
theorem dX7_readHead_223 : decode cX7_readHead 223 = .ok (.ireturn, 1) := by decide +kernel
theorem dX7_readVariable_0 : decode cX7_readVariable 0 = .ok (.aload_n 0, 1) := by decide +kernel
theorem dX7_readVariable_1 : decode cX7_readVariable 1 = .ok (.getfield 24, 3) := by decide +kernel
theorem dX7_readVariable_4 : decode cX7_readVariable 4 = .ok (.iconst 0, 1) := by decide +kernel
theorem dX7_readVariable_5 : decode cX7_readVariable 5 = .ok (.ldc 113, 2) := by decide +kernel
theorem dX7_readVariable_7 : decode cX7_readVariable 7 = .ok (.invokevirtual 69, 3) := by decide +kernel
theorem dX7_readVariable_10 : decode cX7_readVariable 10 = .ok (.ifCond .ne 5, 3) := by decide +kernel
theorem dX7_readVariable_13 : decode cX7_readVariable 13 = .ok (.iconst 0, 1) := by decide +kernel
theorem dX7_readVariable_14 : decode cX7_readVariable 14 = .ok (.ireturn, 1) := by decide +kernel
theorem dX7_readVariable_15 : decode cX7_readVariable 15 = .ok (.iload_n 2, 1) := by decide +kernel
theorem dX7_readVariable_16 : decode cX7_readVariable 16 = .ok (.istore_n 3, 1) := by decide +kernel
theorem dX7_readVariable_17 : decode cX7_readVariable 17 = .ok (.aload_n 0, 1) := by decide +kernel
theorem dX7_readVariable_18 : decode cX7_readVariable 18 = .ok (.getfield 24, 3) := by decide +kernel
theorem dX7_readVariable_21 : decode cX7_readVariable 21 = .ok (.invokevirtual 73, 3) := by decide +kernel
theorem dX7_readVariable_24 : decode cX7_readVariable 24 = .ok (.istore 4, 2) := by decide +kernel
theorem dX7_readVariable_26 : decode cX7_readVariable 26 = .ok (.iload 4, 2) := by decide +kernel
theorem dX7_readVariable_28 : decode cX7_readVariable 28 = .ok (.ifCond .le 23, 3) := by decide +kernel
theorem dX7_readVariable_31 : decode cX7_readVariable 31 = .ok (.iload_n 3, 1) := by decide +kernel
theorem dX7_readVariable_32 : decode cX7_readVariable 32 = .ok (.iconst (-1), 1) := by decide +kernel
theorem dX7_readVariable_33 : decode cX7_readVariable 33 = .ok (.if_icmp .eq 18, 3) := by decide +kernel
theorem dX7_readVariable_36 : decode cX7_readVariable 36 = .ok (.aload_n 0, 1) := by decide +kernel
theorem dX7_readVariable_37 : decode cX7_readVariable 37 = .ok (.getfield 32, 3) := by decide +kernel
theorem dX7_readVariable_40 : decode cX7_readVariable 40 = .ok (.iload_n 3, 1) := by decide +kernel
theorem dX7_readVariable_41 : decode cX7_readVariable 41 = .ok (.invokevirtual 118, 3) := by decide +kernel
theorem dX7_readVariable_44 : decode cX7_readVariable 44 = .ok (.istore_n 3, 1) := by decide +kernel
theorem dX7_readVariable_45 : decode cX7_readVariable 45 = .ok (.iinc 4 (-1), 3) := by decide +kernel
theorem dX7_readVariable_48 : decode cX7_readVariable 48 = .ok (.goto (-22), 3) := by decide +kernel
theorem dX7_readVariable_51 : decode cX7_readVariable 51 = .ok (.iload_n 3, 1) := by decide +kernel
theorem dX7_readVariable_52 : decode cX7_readVariable 52 = .ok (.iconst (-1), 1) := by decide +kernel
theorem dX7_readVariable_53 : decode cX7_readVariable 53 = .ok (.if_icmp .ne 16, 3) := by decide +kernel
theorem dX7_readVariable_56 : decode cX7_readVariable 56 = .ok (.aload_n 0, 1) := by decide +kernel
theorem dX7_readVariable_57 : decode cX7_readVariable 57 = .ok (.getfield 24, 3) := by decide +kernel
theorem dX7_readVariable_60 : decode cX7_readVariable 60 = .ok (.bipush (-11), 2) := by decide +kernel
theorem dX7_readVariable_62 : decode cX7_readVariable 62 = .ok (.iload_n 1, 1) := by decide +kernel
theorem dX7_readVariable_63 : decode cX7_readVariable 63 = .ok (.iconst 1, 1) := by decide +kernel
theorem dX7_readVariable_64 : decode cX7_readVariable 64 = .ok (.iadd, 1) := by decide +kernel
theorem dX7_readVariable_65 : decode cX7_readVariable 65 = .ok (.invokevirtual 121, 3) := by decide +kernel
theorem dX7_readVariable_68 : decode cX7_readVariable 68 = .ok (.ireturn, 1) := by decide +kernel
theorem dX7_readVariable_69 : decode cX7_readVariable 69 = .ok (.aload_n 0, 1) := by decide +kernel
theorem dX7_readVariable_70 : decode cX7_readVariable 70 = .ok (.getfield 32, 3) := by decide +kernel
theorem dX7_readVariable_73 : decode cX7_readVariable 73 = .ok (.iload_n 1, 1) := by decide +kernel
theorem dX7_readVariable_74 : decode cX7_readVariable 74 = .ok (.iload_n 3, 1) := by decide +kernel
theorem dX7_readVariable_75 : decode cX7_readVariable 75 = .ok (.invokevirtual 124, 3) := by decide +kernel
theorem dX7_readVariable_78 : decode cX7_readVariable 78 = .ok (.iconst 1, 1) := by decide +kernel
theorem dX7_readVariable_79 : decode cX7_readVariable 79 = .ok (.ireturn, 1) := by decide +kernel
theorem dX7_readTag_0 : decode cX7_readTag 0 = .ok (.aload_n 0, 1) := by decide +kernel
theorem dX7_readTag_1 : decode cX7_readTag 1 = .ok (.getfield 24, 3) := by decide +kernel
theorem dX7_readTag_4 : decode cX7_readTag 4 = .ok (.iconst 0, 1) := by decide +kernel
theorem dX7_readTag_5 : decode cX7_readTag 5 = .ok (.aload_n 0, 1) := by decide +kernel
theorem dX7_readTag_6 : decode cX7_readTag 6 = .ok (.getfield 28, 3) := by decide +kernel
theorem dX7_readTag_9 : decode cX7_readTag 9 = .ok (.invokevirtual 107, 3) := by decide +kernel
theorem dX7_readTag_12 : decode cX7_readTag 12 = .ok (.iconst 1, 1) := by decide +kernel
theorem dX7_readTag_13 : decode cX7_readTag 13 = .ok (.isub, 1) := by decide +kernel
theorem dX7_readTag_14 : decode cX7_readTag 14 = .ok (.invokevirtual 69, 3) := by decide +kernel
theorem dX7_readTag_17 : decode cX7_readTag 17 = .ok (.ifCond .ne 5, 3) := by decide +kernel
theorem dX7_readTag_20 : decode cX7_readTag 20 = .ok (.iconst 0, 1) := by decide +kernel
theorem dX7_readTag_21 : decode cX7_readTag 21 = .ok (.ireturn, 1) := by decide +kernel
theorem dX7_readTag_22 : decode cX7_readTag 22 = .ok (.aload_n 0, 1) := by decide +kernel
theorem dX7_readTag_23 : decode cX7_readTag 23 = .ok (.getfield 24, 3) := by decide +kernel
theorem dX7_readTag_26 : decode cX7_readTag 26 = .ok (.invokevirtual 73, 3) := by decide +kernel
theorem dX7_readTag_29 : decode cX7_readTag 29 = .ok (.istore_n 2, 1) := by decide +kernel
theorem dX7_readTag_30 : decode cX7_readTag 30 = .ok (.aload_n 0, 1) := by decide +kernel
theorem dX7_readTag_31 : decode cX7_readTag 31 = .ok (.getfield 28, 3) := by decide +kernel
theorem dX7_readTag_34 : decode cX7_readTag 34 = .ok (.iload_n 2, 1) := by decide +kernel
theorem dX7_readTag_35 : decode cX7_readTag 35 = .ok (.invokevirtual 127, 3) := by decide +kernel
theorem dX7_readTag_38 : decode cX7_readTag 38 = .ok (.bipush 6, 2) := by decide +kernel
theorem dX7_readTag_40 : decode cX7_readTag 40 = .ok (.if_icmp .eq 16, 3) := by decide +kernel
theorem dX7_readTag_43 : decode cX7_readTag 43 = .ok (.aload_n 0, 1) := by decide +kernel
theorem dX7_readTag_44 : decode cX7_readTag 44 = .ok (.getfield 24, 3) := by decide +kernel
theorem dX7_readTag_47 : decode cX7_readTag 47 = .ok (.bipush (-11), 2) := by decide +kernel
theorem dX7_readTag_49 : decode cX7_readTag 49 = .ok (.iload_n 1, 1) := by decide +kernel
theorem dX7_readTag_50 : decode cX7_readTag 50 = .ok (.iconst 1, 1) := by decide +kernel
theorem dX7_readTag_51 : decode cX7_readTag 51 = .ok (.iadd, 1) := by decide +kernel
theorem dX7_readTag_52 : decode cX7_readTag 52 = .ok (.invokevirtual 121, 3) := by decide +kernel
theorem dX7_readTag_55 : decode cX7_readTag 55 = .ok (.ireturn, 1) := by decide +kernel
theorem dX7_readTag_56 : decode cX7_readTag 56 = .ok (.aload_n 0, 1) := by decide +kernel
theorem dX7_readTag_57 : decode cX7_readTag 57 = .ok (.getfield 24, 3) := by decide +kernel
theorem dX7_readTag_60 : decode cX7_readTag 60 = .ok (.iconst 0, 1) := by decide +kernel
theorem dX7_readTag_61 : decode cX7_readTag 61 = .ok (.bipush 7, 2) := by decide +kernel
theorem dX7_readTag_63 : decode cX7_readTag 63 = .ok (.invokevirtual 69, 3) := by decide +kernel
theorem dX7_readTag_66 : decode cX7_readTag 66 = .ok (.ifCond .ne 5, 3) := by decide +kernel
theorem dX7_readTag_69 : decode cX7_readTag 69 = .ok (.iconst 0, 1) := by decide +kernel
theorem dX7_readTag_70 : decode cX7_readTag 70 = .ok (.ireturn, 1) := by decide +kernel
theorem dX7_readTag_71 : decode cX7_readTag 71 = .ok (.aload_n 0, 1) := by decide +kernel
theorem dX7_readTag_72 : decode cX7_readTag 72 = .ok (.getfield 28, 3) := by decide +kernel
theorem dX7_readTag_75 : decode cX7_readTag 75 = .ok (.iload_n 2, 1) := by decide +kernel
theorem dX7_readTag_76 : decode cX7_readTag 76 = .ok (.aload_n 0, 1) := by decide +kernel
theorem dX7_readTag_77 : decode cX7_readTag 77 = .ok (.getfield 24, 3) := by decide +kernel
theorem dX7_readTag_80 : decode cX7_readTag 80 = .ok (.invokevirtual 73, 3) := by decide +kernel
theorem dX7_readTag_83 : decode cX7_readTag 83 = .ok (.invokevirtual 130, 3) := by decide +kernel
theorem dX7_readTag_86 : decode cX7_readTag 86 = .ok (.iconst (-1), 1) := by decide +kernel
theorem dX7_readTag_87 : decode cX7_readTag 87 = .ok (.if_icmp .ne 18, 3) := by decide +kernel
theorem dX7_readTag_90 : decode cX7_readTag 90 = .ok (.aload_n 0, 1) := by decide +kernel
theorem dX7_readTag_91 : decode cX7_readTag 91 = .ok (.getfield 24, 3) := by decide +kernel
theorem dX7_readTag_94 : decode cX7_readTag 94 = .ok (.bipush (-11), 2) := by decide +kernel
theorem dX7_readTag_96 : decode cX7_readTag 96 = .ok (.iload_n 1, 1) := by decide +kernel
theorem dX7_readTag_97 : decode cX7_readTag 97 = .ok (.iconst 2, 1) := by decide +kernel
theorem dX7_readTag_98 : decode cX7_readTag 98 = .ok (.iadd, 1) := by decide +kernel
theorem dX7_readTag_99 : decode cX7_readTag 99 = .ok (.invokevirtual 121, 3) := by decide +kernel
theorem dX7_readTag_102 : decode cX7_readTag 102 = .ok (.ifCond .eq 7, 3) := by decide +kernel
theorem dX7_readTag_105 : decode cX7_readTag 105 = .ok (.iconst 1, 1) := by decide +kernel
theorem dX7_readTag_106 : decode cX7_readTag 106 = .ok (.goto 4, 3) := by decide +kernel
theorem dX7_readTag_109 : decode cX7_readTag 109 = .ok (.iconst 0, 1) := by decide +kernel
theorem dX7_readTag_110 : decode cX7_readTag 110 = .ok (.ireturn, 1) := by decide +kernel
theorem dX7_push_0 : decode cX7_push 0 = .ok (.aload_n 0, 1) := by decide +kernel
theorem dX7_push_1 : decode cX7_push 1 = .ok (.getfield 42, 3) := by decide +kernel
theorem dX7_push_4 : decode cX7_push 4 = .ok (.sipush 200, 3) := by decide +kernel
theorem dX7_push_7 : decode cX7_push 7 = .ok (.if_icmp .ge 53, 3) := by decide +kernel
theorem dX7_push_10 : decode cX7_push 10 = .ok (.aload_n 0, 1) := by decide +kernel
theorem dX7_push_11 : decode cX7_push 11 = .ok (.getfield 9, 3) := by decide +kernel
theorem dX7_push_14 : decode cX7_push 14 = .ok (.aload_n 0, 1) := by decide +kernel
theorem dX7_push_15 : decode cX7_push 15 = .ok (.getfield 42, 3) := by decide +kernel
theorem dX7_push_18 : decode cX7_push 18 = .ok (.iload_n 1, 1) := by decide +kernel
theorem dX7_push_19 : decode cX7_push 19 = .ok (.iastore, 1) := by decide +kernel
theorem dX7_push_20 : decode cX7_push 20 = .ok (.aload_n 0, 1) := by decide +kernel
theorem dX7_push_21 : decode cX7_push 21 = .ok (.getfield 15, 3) := by decide +kernel
theorem dX7_push_24 : decode cX7_push 24 = .ok (.aload_n 0, 1) := by decide +kernel
theorem dX7_push_25 : decode cX7_push 25 = .ok (.getfield 42, 3) := by decide +kernel
theorem dX7_push_28 : decode cX7_push 28 = .ok (.iload_n 2, 1) := by decide +kernel
theorem dX7_push_29 : decode cX7_push 29 = .ok (.iastore, 1) := by decide +kernel
theorem dX7_push_30 : decode cX7_push 30 = .ok (.aload_n 0, 1) := by decide +kernel
theorem dX7_push_31 : decode cX7_push 31 = .ok (.getfield 18, 3) := by decide +kernel
theorem dX7_push_34 : decode cX7_push 34 = .ok (.aload_n 0, 1) := by decide +kernel
theorem dX7_push_35 : decode cX7_push 35 = .ok (.getfield 42, 3) := by decide +kernel
theorem dX7_push_38 : decode cX7_push 38 = .ok (.iconst (-1), 1) := by decide +kernel
theorem dX7_push_39 : decode cX7_push 39 = .ok (.iastore, 1) := by decide +kernel
theorem dX7_push_40 : decode cX7_push 40 = .ok (.aload_n 0, 1) := by decide +kernel
theorem dX7_push_41 : decode cX7_push 41 = .ok (.getfield 21, 3) := by decide +kernel
theorem dX7_push_44 : decode cX7_push 44 = .ok (.aload_n 0, 1) := by decide +kernel
theorem dX7_push_45 : decode cX7_push 45 = .ok (.getfield 42, 3) := by decide +kernel
theorem dX7_push_48 : decode cX7_push 48 = .ok (.iload_n 3, 1) := by decide +kernel
theorem dX7_push_49 : decode cX7_push 49 = .ok (.iastore, 1) := by decide +kernel
theorem dX7_push_50 : decode cX7_push 50 = .ok (.aload_n 0, 1) := by decide +kernel
theorem dX7_push_51 : decode cX7_push 51 = .ok (.dup, 1) := by decide +kernel
theorem dX7_push_52 : decode cX7_push 52 = .ok (.getfield 42, 3) := by decide +kernel
theorem dX7_push_55 : decode cX7_push 55 = .ok (.iconst 1, 1) := by decide +kernel
theorem dX7_push_56 : decode cX7_push 56 = .ok (.iadd, 1) := by decide +kernel
theorem dX7_push_57 : decode cX7_push 57 = .ok (.putfield 42, 3) := by decide +kernel
theorem dX7_push_60 : decode cX7_push 60 = .ok (.return_, 1) := by decide +kernel
theorem dX7_settle_0 : decode cX7_settle 0 = .ok (.aload_n 0, 1) := by decide +kernel
theorem dX7_settle_1 : decode cX7_settle 1 = .ok (.getfield 42, 3) := by decide +kernel
theorem dX7_settle_4 : decode cX7_settle 4 = .ok (.iconst 1, 1) := by decide +kernel
theorem dX7_settle_5 : decode cX7_settle 5 = .ok (.isub, 1) := by decide +kernel
theorem dX7_settle_6 : decode cX7_settle 6 = .ok (.istore_n 1, 1) := by decide +kernel
theorem dX7_settle_7 : decode cX7_settle 7 = .ok (.iload_n 1, 1) := by decide +kernel
theorem dX7_settle_8 : decode cX7_settle 8 = .ok (.ifCond .lt 34, 3) := by decide +kernel
theorem dX7_settle_11 : decode cX7_settle 11 = .ok (.aload_n 0, 1) := by decide +kernel
theorem dX7_settle_12 : decode cX7_settle 12 = .ok (.getfield 15, 3) := by decide +kernel
theorem dX7_settle_15 : decode cX7_settle 15 = .ok (.iload_n 1, 1) := by decide +kernel
theorem dX7_settle_16 : decode cX7_settle 16 = .ok (.dup2, 1) := by decide +kernel
theorem dX7_settle_17 : decode cX7_settle 17 = .ok (.iaload, 1) := by decide +kernel
theorem dX7_settle_18 : decode cX7_settle 18 = .ok (.iconst 1, 1) := by decide +kernel
theorem dX7_settle_19 : decode cX7_settle 19 = .ok (.isub, 1) := by decide +kernel
theorem dX7_settle_20 : decode cX7_settle 20 = .ok (.iastore, 1) := by decide +kernel
theorem dX7_settle_21 : decode cX7_settle 21 = .ok (.aload_n 0, 1) := by decide +kernel
theorem dX7_settle_22 : decode cX7_settle 22 = .ok (.getfield 15, 3) := by decide +kernel
theorem dX7_settle_25 : decode cX7_settle 25 = .ok (.iload_n 1, 1) := by decide +kernel
theorem dX7_settle_26 : decode cX7_settle 26 = .ok (.iaload, 1) := by decide +kernel
theorem dX7_settle_27 : decode cX7_settle 27 = .ok (.ifCond .le 4, 3) := by decide +kernel
theorem dX7_settle_30 : decode cX7_settle 30 = .ok (.return_, 1) := by decide +kernel
theorem dX7_settle_31 : decode cX7_settle 31 = .ok (.aload_n 0, 1) := by decide +kernel
theorem dX7_settle_32 : decode cX7_settle 32 = .ok (.iload_n 1, 1) := by decide +kernel
theorem dX7_settle_33 : decode cX7_settle 33 = .ok (.putfield 42, 3) := by decide +kernel
theorem dX7_settle_36 : decode cX7_settle 36 = .ok (.iinc 1 (-1), 3) := by decide +kernel
theorem dX7_settle_39 : decode cX7_settle 39 = .ok (.goto (-32), 3) := by decide +kernel
theorem dX7_settle_42 : decode cX7_settle 42 = .ok (.return_, 1) := by decide +kernel
theorem dX8_init_0 : decode cX8_init 0 = .ok (.aload_n 0, 1) := by decide +kernel
theorem dX8_init_1 : decode cX8_init 1 = .ok (.invokespecial 3, 3) := by decide +kernel
theorem dX8_init_4 : decode cX8_init 4 = .ok (.aload_n 0, 1) := by decide +kernel
theorem dX8_init_5 : decode cX8_init 5 = .ok (.sipush 200, 3) := by decide +kernel
theorem dX8_init_8 : decode cX8_init 8 = .ok (.newarray .int, 2) := by decide +kernel
theorem dX8_init_10 : decode cX8_init 10 = .ok (.putfield 9, 3) := by decide +kernel
theorem dX8_init_13 : decode cX8_init 13 = .ok (.aload_n 0, 1) := by decide +kernel
theorem dX8_init_14 : decode cX8_init 14 = .ok (.iconst (-1), 1) := by decide +kernel
theorem dX8_init_15 : decode cX8_init 15 = .ok (.putfield 15, 3) := by decide +kernel
theorem dX8_init_18 : decode cX8_init 18 = .ok (.return_, 1) := by decide +kernel
theorem dX8_size_0 : decode cX8_size 0 = .ok (.aload_n 0, 1) := by decide +kernel
theorem dX8_size_1 : decode cX8_size 1 = .ok (.getfield 19, 3) := by decide +kernel
theorem dX8_size_4 : decode cX8_size 4 = .ok (.ireturn, 1) := by decide +kernel
theorem dX8_at_0 : decode cX8_at 0 = .ok (.aload_n 0, 1) := by decide +kernel
theorem dX8_at_1 : decode cX8_at 1 = .ok (.getfield 22, 3) := by decide +kernel
theorem dX8_at_4 : decode cX8_at 4 = .ok (.ireturn, 1) := by decide +kernel
theorem dX8_taken_0 : decode cX8_taken 0 = .ok (.aload_n 0, 1) := by decide +kernel
theorem dX8_taken_1 : decode cX8_taken 1 = .ok (.getfield 25, 3) := by decide +kernel
theorem dX8_taken_4 : decode cX8_taken 4 = .ok (.ireturn, 1) := by decide +kernel
theorem dX8_fault_0 : decode cX8_fault 0 = .ok (.aload_n 0, 1) := by decide +kernel
theorem dX8_fault_1 : decode cX8_fault 1 = .ok (.getfield 28, 3) := by decide +kernel
theorem dX8_fault_4 : decode cX8_fault 4 = .ok (.ireturn, 1) := by decide +kernel
theorem dX8_faultPlace_0 : decode cX8_faultPlace 0 = .ok (.aload_n 0, 1) := by decide +kernel
theorem dX8_faultPlace_1 : decode cX8_faultPlace 1 = .ok (.getfield 15, 3) := by decide +kernel
theorem dX8_faultPlace_4 : decode cX8_faultPlace 4 = .ok (.ireturn, 1) := by decide +kernel
theorem dX8_append_0 : decode cX8_append 0 = .ok (.aload_n 0, 1) := by decide +kernel
theorem dX8_append_1 : decode cX8_append 1 = .ok (.getfield 19, 3) := by decide +kernel
theorem dX8_append_4 : decode cX8_append 4 = .ok (.sipush 200, 3) := by decide +kernel
theorem dX8_append_7 : decode cX8_append 7 = .ok (.if_icmp .lt 6, 3) := by decide +kernel
theorem dX8_append_10 : decode cX8_append 10 = .ok (.bipush (-3), 2) := by decide +kernel
theorem dX8_append_12 : decode cX8_append 12 = .ok (.ireturn, 1) := by decide +kernel
theorem dX8_append_13 : decode cX8_append 13 = .ok (.aload_n 0, 1) := by decide +kernel
theorem dX8_append_14 : decode cX8_append 14 = .ok (.getfield 9, 3) := by decide +kernel
theorem dX8_append_17 : decode cX8_append 17 = .ok (.aload_n 0, 1) := by decide +kernel
theorem dX8_append_18 : decode cX8_append 18 = .ok (.getfield 19, 3) := by decide +kernel
theorem dX8_append_21 : decode cX8_append 21 = .ok (.iload_n 1, 1) := by decide +kernel
theorem dX8_append_22 : decode cX8_append 22 = .ok (.iastore, 1) := by decide +kernel
theorem dX8_append_23 : decode cX8_append 23 = .ok (.aload_n 0, 1) := by decide +kernel
theorem dX8_append_24 : decode cX8_append 24 = .ok (.dup, 1) := by decide +kernel
theorem dX8_append_25 : decode cX8_append 25 = .ok (.getfield 19, 3) := by decide +kernel
theorem dX8_append_28 : decode cX8_append 28 = .ok (.iconst 1, 1) := by decide +kernel
theorem dX8_append_29 : decode cX8_append 29 = .ok (.iadd, 1) := by decide +kernel
theorem dX8_append_30 : decode cX8_append 30 = .ok (.putfield 19, 3) := by decide +kernel
theorem dX8_append_33 : decode cX8_append 33 = .ok (.aload_n 0, 1) := by decide +kernel
theorem dX8_append_34 : decode cX8_append 34 = .ok (.getfield 19, 3) := by decide +kernel
theorem dX8_append_37 : decode cX8_append 37 = .ok (.ireturn, 1) := by decide +kernel
theorem dX8_empty_0 : decode cX8_empty 0 = .ok (.aload_n 0, 1) := by decide +kernel
theorem dX8_empty_1 : decode cX8_empty 1 = .ok (.iconst 0, 1) := by decide +kernel
theorem dX8_empty_2 : decode cX8_empty 2 = .ok (.putfield 19, 3) := by decide +kernel
theorem dX8_empty_5 : decode cX8_empty 5 = .ok (.return_, 1) := by decide +kernel
theorem dX8_rewind_0 : decode cX8_rewind 0 = .ok (.aload_n 0, 1) := by decide +kernel
theorem dX8_rewind_1 : decode cX8_rewind 1 = .ok (.iconst 0, 1) := by decide +kernel
theorem dX8_rewind_2 : decode cX8_rewind 2 = .ok (.putfield 22, 3) := by decide +kernel
theorem dX8_rewind_5 : decode cX8_rewind 5 = .ok (.aload_n 0, 1) := by decide +kernel
theorem dX8_rewind_6 : decode cX8_rewind 6 = .ok (.iconst (-1), 1) := by decide +kernel
theorem dX8_rewind_7 : decode cX8_rewind 7 = .ok (.putfield 28, 3) := by decide +kernel
theorem dX8_rewind_10 : decode cX8_rewind 10 = .ok (.aload_n 0, 1) := by decide +kernel
theorem dX8_rewind_11 : decode cX8_rewind 11 = .ok (.iconst (-1), 1) := by decide +kernel
theorem dX8_rewind_12 : decode cX8_rewind 12 = .ok (.putfield 15, 3) := by decide +kernel
theorem dX8_rewind_15 : decode cX8_rewind 15 = .ok (.return_, 1) := by decide +kernel
theorem dX8_fail_0 : decode cX8_fail 0 = .ok (.aload_n 0, 1) := by decide +kernel
theorem dX8_fail_1 : decode cX8_fail 1 = .ok (.iload_n 1, 1) := by decide +kernel
theorem dX8_fail_2 : decode cX8_fail 2 = .ok (.putfield 28, 3) := by decide +kernel
theorem dX8_fail_5 : decode cX8_fail 5 = .ok (.aload_n 0, 1) := by decide +kernel
theorem dX8_fail_6 : decode cX8_fail 6 = .ok (.iload_n 2, 1) := by decide +kernel
theorem dX8_fail_7 : decode cX8_fail 7 = .ok (.putfield 15, 3) := by decide +kernel
theorem dX8_fail_10 : decode cX8_fail 10 = .ok (.iconst 0, 1) := by decide +kernel
theorem dX8_fail_11 : decode cX8_fail 11 = .ok (.ireturn, 1) := by decide +kernel
theorem dX8_take_0 : decode cX8_take 0 = .ok (.aload_n 0, 1) := by decide +kernel
theorem dX8_take_1 : decode cX8_take 1 = .ok (.getfield 22, 3) := by decide +kernel
theorem dX8_take_4 : decode cX8_take 4 = .ok (.aload_n 0, 1) := by decide +kernel
theorem dX8_take_5 : decode cX8_take 5 = .ok (.getfield 19, 3) := by decide +kernel
theorem dX8_take_8 : decode cX8_take 8 = .ok (.if_icmp .lt 14, 3) := by decide +kernel
theorem dX8_take_11 : decode cX8_take 11 = .ok (.aload_n 0, 1) := by decide +kernel
theorem dX8_take_12 : decode cX8_take 12 = .ok (.bipush (-12), 2) := by decide +kernel
theorem dX8_take_14 : decode cX8_take 14 = .ok (.aload_n 0, 1) := by decide +kernel
theorem dX8_take_15 : decode cX8_take 15 = .ok (.getfield 22, 3) := by decide +kernel
theorem dX8_take_18 : decode cX8_take 18 = .ok (.invokevirtual 31, 3) := by decide +kernel
theorem dX8_take_21 : decode cX8_take 21 = .ok (.ireturn, 1) := by decide +kernel
theorem dX8_take_22 : decode cX8_take 22 = .ok (.aload_n 0, 1) := by decide +kernel
theorem dX8_take_23 : decode cX8_take 23 = .ok (.getfield 9, 3) := by decide +kernel
theorem dX8_take_26 : decode cX8_take 26 = .ok (.aload_n 0, 1) := by decide +kernel
theorem dX8_take_27 : decode cX8_take 27 = .ok (.getfield 22, 3) := by decide +kernel
theorem dX8_take_30 : decode cX8_take 30 = .ok (.iaload, 1) := by decide +kernel
theorem dX8_take_31 : decode cX8_take 31 = .ok (.istore_n 3, 1) := by decide +kernel
theorem dX8_take_32 : decode cX8_take 32 = .ok (.iload_n 3, 1) := by decide +kernel
theorem dX8_take_33 : decode cX8_take 33 = .ok (.iload_n 1, 1) := by decide +kernel
theorem dX8_take_34 : decode cX8_take 34 = .ok (.if_icmp .lt 8, 3) := by decide +kernel
theorem dX8_take_37 : decode cX8_take 37 = .ok (.iload_n 3, 1) := by decide +kernel
theorem dX8_take_38 : decode cX8_take 38 = .ok (.iload_n 2, 1) := by decide +kernel
theorem dX8_take_39 : decode cX8_take 39 = .ok (.if_icmp .le 14, 3) := by decide +kernel
theorem dX8_take_42 : decode cX8_take 42 = .ok (.aload_n 0, 1) := by decide +kernel
theorem dX8_take_43 : decode cX8_take 43 = .ok (.bipush (-11), 2) := by decide +kernel
theorem dX8_take_45 : decode cX8_take 45 = .ok (.aload_n 0, 1) := by decide +kernel
theorem dX8_take_46 : decode cX8_take 46 = .ok (.getfield 22, 3) := by decide +kernel
theorem dX8_take_49 : decode cX8_take 49 = .ok (.invokevirtual 31, 3) := by decide +kernel
theorem dX8_take_52 : decode cX8_take 52 = .ok (.ireturn, 1) := by decide +kernel
theorem dX8_take_53 : decode cX8_take 53 = .ok (.aload_n 0, 1) := by decide +kernel
theorem dX8_take_54 : decode cX8_take 54 = .ok (.iload_n 3, 1) := by decide +kernel
theorem dX8_take_55 : decode cX8_take 55 = .ok (.putfield 25, 3) := by decide +kernel
theorem dX8_take_58 : decode cX8_take 58 = .ok (.aload_n 0, 1) := by decide +kernel
theorem dX8_take_59 : decode cX8_take 59 = .ok (.dup, 1) := by decide +kernel
theorem dX8_take_60 : decode cX8_take 60 = .ok (.getfield 22, 3) := by decide +kernel
theorem dX8_take_63 : decode cX8_take 63 = .ok (.iconst 1, 1) := by decide +kernel
theorem dX8_take_64 : decode cX8_take 64 = .ok (.iadd, 1) := by decide +kernel
theorem dX8_take_65 : decode cX8_take 65 = .ok (.putfield 22, 3) := by decide +kernel
theorem dX8_take_68 : decode cX8_take 68 = .ok (.iconst 1, 1) := by decide +kernel
theorem dX8_take_69 : decode cX8_take 69 = .ok (.ireturn, 1) := by decide +kernel
theorem dX8_takeEnd_0 : decode cX8_takeEnd 0 = .ok (.aload_n 0, 1) := by decide +kernel
theorem dX8_takeEnd_1 : decode cX8_takeEnd 1 = .ok (.getfield 22, 3) := by decide +kernel
theorem dX8_takeEnd_4 : decode cX8_takeEnd 4 = .ok (.aload_n 0, 1) := by decide +kernel
theorem dX8_takeEnd_5 : decode cX8_takeEnd 5 = .ok (.getfield 19, 3) := by decide +kernel
theorem dX8_takeEnd_8 : decode cX8_takeEnd 8 = .ok (.if_icmp .ge 16, 3) := by decide +kernel
theorem dX8_takeEnd_11 : decode cX8_takeEnd 11 = .ok (.aload_n 0, 1) := by decide +kernel
theorem dX8_takeEnd_12 : decode cX8_takeEnd 12 = .ok (.bipush (-14), 2) := by decide +kernel
theorem dX8_takeEnd_14 : decode cX8_takeEnd 14 = .ok (.aload_n 0, 1) := by decide +kernel
theorem dX8_takeEnd_15 : decode cX8_takeEnd 15 = .ok (.getfield 22, 3) := by decide +kernel
theorem dX8_takeEnd_18 : decode cX8_takeEnd 18 = .ok (.invokevirtual 31, 3) := by decide +kernel
theorem dX8_takeEnd_21 : decode cX8_takeEnd 21 = .ok (.ifCond .eq 7, 3) := by decide +kernel
theorem dX8_takeEnd_24 : decode cX8_takeEnd 24 = .ok (.iconst 1, 1) := by decide +kernel
theorem dX8_takeEnd_25 : decode cX8_takeEnd 25 = .ok (.goto 4, 3) := by decide +kernel
theorem dX8_takeEnd_28 : decode cX8_takeEnd 28 = .ok (.iconst 0, 1) := by decide +kernel
theorem dX8_takeEnd_29 : decode cX8_takeEnd 29 = .ok (.ireturn, 1) := by decide +kernel
theorem dX8_copyTo_0 : decode cX8_copyTo 0 = .ok (.iconst 0, 1) := by decide +kernel
theorem dX8_copyTo_1 : decode cX8_copyTo 1 = .ok (.istore_n 2, 1) := by decide +kernel
theorem dX8_copyTo_2 : decode cX8_copyTo 2 = .ok (.iload_n 2, 1) := by decide +kernel
theorem dX8_copyTo_3 : decode cX8_copyTo 3 = .ok (.aload_n 0, 1) := by decide +kernel
theorem dX8_copyTo_4 : decode cX8_copyTo 4 = .ok (.getfield 19, 3) := by decide +kernel
theorem dX8_copyTo_7 : decode cX8_copyTo 7 = .ok (.if_icmp .ge 24, 3) := by decide +kernel
theorem dX8_copyTo_10 : decode cX8_copyTo 10 = .ok (.iload_n 2, 1) := by decide +kernel
theorem dX8_copyTo_11 : decode cX8_copyTo 11 = .ok (.aload_n 1, 1) := by decide +kernel
theorem dX8_copyTo_12 : decode cX8_copyTo 12 = .ok (.arraylength, 1) := by decide +kernel
theorem dX8_copyTo_13 : decode cX8_copyTo 13 = .ok (.if_icmp .ge 18, 3) := by decide +kernel
theorem dX8_copyTo_16 : decode cX8_copyTo 16 = .ok (.aload_n 1, 1) := by decide +kernel
theorem dX8_copyTo_17 : decode cX8_copyTo 17 = .ok (.iload_n 2, 1) := by decide +kernel
theorem dX8_copyTo_18 : decode cX8_copyTo 18 = .ok (.aload_n 0, 1) := by decide +kernel
theorem dX8_copyTo_19 : decode cX8_copyTo 19 = .ok (.getfield 9, 3) := by decide +kernel
theorem dX8_copyTo_22 : decode cX8_copyTo 22 = .ok (.iload_n 2, 1) := by decide +kernel
theorem dX8_copyTo_23 : decode cX8_copyTo 23 = .ok (.iaload, 1) := by decide +kernel
theorem dX8_copyTo_24 : decode cX8_copyTo 24 = .ok (.iastore, 1) := by decide +kernel
theorem dX8_copyTo_25 : decode cX8_copyTo 25 = .ok (.iinc 2 1, 3) := by decide +kernel
theorem dX8_copyTo_28 : decode cX8_copyTo 28 = .ok (.goto (-26), 3) := by decide +kernel
theorem dX8_copyTo_31 : decode cX8_copyTo 31 = .ok (.return_, 1) := by decide +kernel
theorem dX9_init_0 : decode cX9_init 0 = .ok (.aload_n 0, 1) := by decide +kernel
theorem dX9_init_1 : decode cX9_init 1 = .ok (.invokespecial 3, 3) := by decide +kernel
theorem dX9_init_4 : decode cX9_init 4 = .ok (.aload_n 0, 1) := by decide +kernel
theorem dX9_init_5 : decode cX9_init 5 = .ok (.sipush 200, 3) := by decide +kernel
theorem dX9_init_8 : decode cX9_init 8 = .ok (.newarray .int, 2) := by decide +kernel
theorem dX9_init_10 : decode cX9_init 10 = .ok (.putfield 9, 3) := by decide +kernel
theorem dX9_init_13 : decode cX9_init 13 = .ok (.aload_n 0, 1) := by decide +kernel
theorem dX9_init_14 : decode cX9_init 14 = .ok (.sipush 200, 3) := by decide +kernel
theorem dX9_init_17 : decode cX9_init 17 = .ok (.newarray .int, 2) := by decide +kernel
theorem dX9_init_19 : decode cX9_init 19 = .ok (.putfield 15, 3) := by decide +kernel
theorem dX9_init_22 : decode cX9_init 22 = .ok (.aload_n 0, 1) := by decide +kernel
theorem dX9_init_23 : decode cX9_init 23 = .ok (.sipush 200, 3) := by decide +kernel
theorem dX9_init_26 : decode cX9_init 26 = .ok (.newarray .int, 2) := by decide +kernel
theorem dX9_init_28 : decode cX9_init 28 = .ok (.putfield 18, 3) := by decide +kernel
theorem dX9_init_31 : decode cX9_init 31 = .ok (.aload_n 0, 1) := by decide +kernel
theorem dX9_init_32 : decode cX9_init 32 = .ok (.sipush 200, 3) := by decide +kernel
theorem dX9_init_35 : decode cX9_init 35 = .ok (.newarray .int, 2) := by decide +kernel
theorem dX9_init_37 : decode cX9_init 37 = .ok (.putfield 21, 3) := by decide +kernel
theorem dX9_init_40 : decode cX9_init 40 = .ok (.aload_n 0, 1) := by decide +kernel
theorem dX9_init_41 : decode cX9_init 41 = .ok (.aload_n 1, 1) := by decide +kernel
theorem dX9_init_42 : decode cX9_init 42 = .ok (.putfield 24, 3) := by decide +kernel
theorem dX9_init_45 : decode cX9_init 45 = .ok (.aload_n 0, 1) := by decide +kernel
theorem dX9_init_46 : decode cX9_init 46 = .ok (.aload_n 2, 1) := by decide +kernel
theorem dX9_init_47 : decode cX9_init 47 = .ok (.putfield 28, 3) := by decide +kernel
theorem dX9_init_50 : decode cX9_init 50 = .ok (.return_, 1) := by decide +kernel
theorem dX9_read_0 : decode cX9_read 0 = .ok (.aload_n 0, 1) := by decide +kernel
theorem dX9_read_1 : decode cX9_read 1 = .ok (.iconst 0, 1) := by decide +kernel
theorem dX9_read_2 : decode cX9_read 2 = .ok (.putfield 32, 3) := by decide +kernel
theorem dX9_read_5 : decode cX9_read 5 = .ok (.iconst 0, 1) := by decide +kernel
theorem dX9_read_6 : decode cX9_read 6 = .ok (.istore_n 1, 1) := by decide +kernel
theorem dX9_read_7 : decode cX9_read 7 = .ok (.iload_n 1, 1) := by decide +kernel
theorem dX9_read_8 : decode cX9_read 8 = .ok (.sipush 200, 3) := by decide +kernel
theorem dX9_read_11 : decode cX9_read 11 = .ok (.if_icmp .gt 40, 3) := by decide +kernel
theorem dX9_read_14 : decode cX9_read 14 = .ok (.aload_n 0, 1) := by decide +kernel
theorem dX9_read_15 : decode cX9_read 15 = .ok (.invokevirtual 36, 3) := by decide +kernel
theorem dX9_read_18 : decode cX9_read 18 = .ok (.ifCond .eq 10, 3) := by decide +kernel
theorem dX9_read_21 : decode cX9_read 21 = .ok (.aload_n 0, 1) := by decide +kernel
theorem dX9_read_22 : decode cX9_read 22 = .ok (.invokevirtual 40, 3) := by decide +kernel
theorem dX9_read_25 : decode cX9_read 25 = .ok (.ifCond .ne 5, 3) := by decide +kernel
theorem dX9_read_28 : decode cX9_read 28 = .ok (.iconst 0, 1) := by decide +kernel
theorem dX9_read_29 : decode cX9_read 29 = .ok (.ireturn, 1) := by decide +kernel
theorem dX9_read_30 : decode cX9_read 30 = .ok (.aload_n 0, 1) := by decide +kernel
theorem dX9_read_31 : decode cX9_read 31 = .ok (.getfield 32, 3) := by decide +kernel
theorem dX9_read_34 : decode cX9_read 34 = .ok (.ifCond .ne 11, 3) := by decide +kernel
theorem dX9_read_37 : decode cX9_read 37 = .ok (.aload_n 0, 1) := by decide +kernel
theorem dX9_read_38 : decode cX9_read 38 = .ok (.getfield 24, 3) := by decide +kernel
theorem dX9_read_41 : decode cX9_read 41 = .ok (.invokevirtual 43, 3) := by decide +kernel
theorem dX9_read_44 : decode cX9_read 44 = .ok (.ireturn, 1) := by decide +kernel
theorem dX9_read_45 : decode cX9_read 45 = .ok (.iinc 1 1, 3) := by decide +kernel
theorem dX9_read_48 : decode cX9_read 48 = .ok (.goto (-41), 3) := by decide +kernel
theorem dX9_read_51 : decode cX9_read 51 = .ok (.iconst 0, 1) := by decide +kernel
theorem dX9_read_52 : decode cX9_read 52 = .ok (.ireturn, 1) := by decide +kernel
theorem dX9_readLabel_0 : decode cX9_readLabel 0 = .ok (.aload_n 0, 1) := by decide +kernel
theorem dX9_readLabel_1 : decode cX9_readLabel 1 = .ok (.getfield 32, 3) := by decide +kernel
theorem dX9_readLabel_4 : decode cX9_readLabel 4 = .ok (.iconst 1, 1) := by decide +kernel
theorem dX9_readLabel_5 : decode cX9_readLabel 5 = .ok (.isub, 1) := by decide +kernel
theorem dX9_readLabel_6 : decode cX9_readLabel 6 = .ok (.istore_n 1, 1) := by decide +kernel
theorem dX9_readLabel_7 : decode cX9_readLabel 7 = .ok (.iload_n 1, 1) := by decide +kernel
theorem dX9_readLabel_8 : decode cX9_readLabel 8 = .ok (.ifCond .lt 13, 3) := by decide +kernel
theorem dX9_readLabel_11 : decode cX9_readLabel 11 = .ok (.aload_n 0, 1) := by decide +kernel
theorem dX9_readLabel_12 : decode cX9_readLabel 12 = .ok (.getfield 15, 3) := by decide +kernel
theorem dX9_readLabel_15 : decode cX9_readLabel 15 = .ok (.iload_n 1, 1) := by decide +kernel
theorem dX9_readLabel_16 : decode cX9_readLabel 16 = .ok (.iaload, 1) := by decide +kernel
theorem dX9_readLabel_17 : decode cX9_readLabel 17 = .ok (.iconst (-1), 1) := by decide +kernel
theorem dX9_readLabel_18 : decode cX9_readLabel 18 = .ok (.if_icmp .eq 5, 3) := by decide +kernel
theorem dX9_readLabel_21 : decode cX9_readLabel 21 = .ok (.iconst 1, 1) := by decide +kernel
theorem dX9_readLabel_22 : decode cX9_readLabel 22 = .ok (.ireturn, 1) := by decide +kernel
theorem dX9_readLabel_23 : decode cX9_readLabel 23 = .ok (.aload_n 0, 1) := by decide +kernel
theorem dX9_readLabel_24 : decode cX9_readLabel 24 = .ok (.getfield 28, 3) := by decide +kernel
theorem dX9_readLabel_27 : decode cX9_readLabel 27 = .ok (.aload_n 0, 1) := by decide +kernel
theorem dX9_readLabel_28 : decode cX9_readLabel 28 = .ok (.getfield 9, 3) := by decide +kernel
theorem dX9_readLabel_31 : decode cX9_readLabel 31 = .ok (.iload_n 1, 1) := by decide +kernel
theorem dX9_readLabel_32 : decode cX9_readLabel 32 = .ok (.iaload, 1) := by decide +kernel
theorem dX9_readLabel_33 : decode cX9_readLabel 33 = .ok (.invokevirtual 48, 3) := by decide +kernel
theorem dX9_readLabel_36 : decode cX9_readLabel 36 = .ok (.iconst 4, 1) := by decide +kernel
theorem dX9_readLabel_37 : decode cX9_readLabel 37 = .ok (.if_icmp .ne 15, 3) := by decide +kernel
theorem dX9_readLabel_40 : decode cX9_readLabel 40 = .ok (.aload_n 0, 1) := by decide +kernel
theorem dX9_readLabel_41 : decode cX9_readLabel 41 = .ok (.getfield 21, 3) := by decide +kernel
theorem dX9_readLabel_44 : decode cX9_readLabel 44 = .ok (.iload_n 1, 1) := by decide +kernel
theorem dX9_readLabel_45 : decode cX9_readLabel 45 = .ok (.dup2, 1) := by decide +kernel
theorem dX9_readLabel_46 : decode cX9_readLabel 46 = .ok (.iaload, 1) := by decide +kernel
theorem dX9_readLabel_47 : decode cX9_readLabel 47 = .ok (.iconst 1, 1) := by decide +kernel
theorem dX9_readLabel_48 : decode cX9_readLabel 48 = .ok (.iadd, 1) := by decide +kernel
theorem dX9_readLabel_49 : decode cX9_readLabel 49 = .ok (.iastore, 1) := by decide +kernel
theorem dX9_readLabel_50 : decode cX9_readLabel 50 = .ok (.iconst 1, 1) := by decide +kernel
theorem dX9_readLabel_51 : decode cX9_readLabel 51 = .ok (.ireturn, 1) := by decide +kernel
theorem dX9_readLabel_52 : decode cX9_readLabel 52 = .ok (.aload_n 0, 1) := by decide +kernel
theorem dX9_readLabel_53 : decode cX9_readLabel 53 = .ok (.getfield 24, 3) := by decide +kernel
theorem dX9_readLabel_56 : decode cX9_readLabel 56 = .ok (.aload_n 0, 1) := by decide +kernel
theorem dX9_readLabel_57 : decode cX9_readLabel 57 = .ok (.getfield 21, 3) := by decide +kernel
theorem dX9_readLabel_60 : decode cX9_readLabel 60 = .ok (.iload_n 1, 1) := by decide +kernel
theorem dX9_readLabel_61 : decode cX9_readLabel 61 = .ok (.iaload, 1) := by decide +kernel
theorem dX9_readLabel_62 : decode cX9_readLabel 62 = .ok (.iconst 1, 1) := by decide +kernel
theorem dX9_readLabel_63 : decode cX9_readLabel 63 = .ok (.iadd, 1) := by decide +kernel
theorem dX9_readLabel_64 : decode cX9_readLabel 64 = .ok (.bipush 7, 2) := by decide +kernel
theorem dX9_readLabel_66 : decode cX9_readLabel 66 = .ok (.invokevirtual 54, 3) := by decide +kernel
theorem dX9_readLabel_69 : decode cX9_readLabel 69 = .ok (.ifCond .ne 5, 3) := by decide +kernel
theorem dX9_readLabel_72 : decode cX9_readLabel 72 = .ok (.iconst 0, 1) := by decide +kernel
theorem dX9_readLabel_73 : decode cX9_readLabel 73 = .ok (.ireturn, 1) := by decide +kernel
theorem dX9_readLabel_74 : decode cX9_readLabel 74 = .ok (.aload_n 0, 1) := by decide +kernel
theorem dX9_readLabel_75 : decode cX9_readLabel 75 = .ok (.getfield 21, 3) := by decide +kernel
theorem dX9_readLabel_78 : decode cX9_readLabel 78 = .ok (.iload_n 1, 1) := by decide +kernel
theorem dX9_readLabel_79 : decode cX9_readLabel 79 = .ok (.aload_n 0, 1) := by decide +kernel
theorem dX9_readLabel_80 : decode cX9_readLabel 80 = .ok (.getfield 24, 3) := by decide +kernel
theorem dX9_readLabel_83 : decode cX9_readLabel 83 = .ok (.invokevirtual 58, 3) := by decide +kernel
theorem dX9_readLabel_86 : decode cX9_readLabel 86 = .ok (.iastore, 1) := by decide +kernel
theorem dX9_readLabel_87 : decode cX9_readLabel 87 = .ok (.iconst 1, 1) := by decide +kernel
theorem dX9_readLabel_88 : decode cX9_readLabel 88 = .ok (.ireturn, 1) := by decide +kernel
theorem dX9_readWord_0 : decode cX9_readWord 0 = .ok (.aload_n 0, 1) := by decide +kernel
theorem dX9_readWord_1 : decode cX9_readWord 1 = .ok (.getfield 24, 3) := by decide +kernel
theorem dX9_readWord_4 : decode cX9_readWord 4 = .ok (.invokevirtual 62, 3) := by decide +kernel
theorem dX9_readWord_7 : decode cX9_readWord 7 = .ok (.istore_n 1, 1) := by decide +kernel
theorem dX9_readWord_8 : decode cX9_readWord 8 = .ok (.aload_n 0, 1) := by decide +kernel
theorem dX9_readWord_9 : decode cX9_readWord 9 = .ok (.getfield 24, 3) := by decide +kernel
theorem dX9_readWord_12 : decode cX9_readWord 12 = .ok (.iconst 1, 1) := by decide +kernel
theorem dX9_readWord_13 : decode cX9_readWord 13 = .ok (.bipush 9, 2) := by decide +kernel
theorem dX9_readWord_15 : decode cX9_readWord 15 = .ok (.invokevirtual 54, 3) := by decide +kernel
theorem dX9_readWord_18 : decode cX9_readWord 18 = .ok (.ifCond .ne 5, 3) := by decide +kernel
theorem dX9_readWord_21 : decode cX9_readWord 21 = .ok (.iconst 0, 1) := by decide +kernel
theorem dX9_readWord_22 : decode cX9_readWord 22 = .ok (.ireturn, 1) := by decide +kernel
theorem dX9_readWord_23 : decode cX9_readWord 23 = .ok (.aload_n 0, 1) := by decide +kernel
theorem dX9_readWord_24 : decode cX9_readWord 24 = .ok (.getfield 24, 3) := by decide +kernel
theorem dX9_readWord_27 : decode cX9_readWord 27 = .ok (.invokevirtual 58, 3) := by decide +kernel
theorem dX9_readWord_30 : decode cX9_readWord 30 = .ok (.istore_n 2, 1) := by decide +kernel
theorem dX9_readWord_31 : decode cX9_readWord 31 = .ok (.iload_n 2, 1) := by decide +kernel
theorem dX9_readWord_32 : decode cX9_readWord 32 = .ok (.bipush 8, 2) := by decide +kernel
theorem dX9_readWord_34 : decode cX9_readWord 34 = .ok (.if_icmp .ne 8, 3) := by decide +kernel
theorem dX9_readWord_37 : decode cX9_readWord 37 = .ok (.aload_n 0, 1) := by decide +kernel
theorem dX9_readWord_38 : decode cX9_readWord 38 = .ok (.invokevirtual 65, 3) := by decide +kernel
theorem dX9_readWord_41 : decode cX9_readWord 41 = .ok (.ireturn, 1) := by decide +kernel
theorem dX9_readWord_42 : decode cX9_readWord 42 = .ok (.iload_n 2, 1) := by decide +kernel
theorem dX9_readWord_43 : decode cX9_readWord 43 = .ok (.bipush 9, 2) := by decide +kernel
theorem dX9_readWord_45 : decode cX9_readWord 45 = .ok (.if_icmp .ne 11, 3) := by decide +kernel
theorem dX9_readWord_48 : decode cX9_readWord 48 = .ok (.aload_n 0, 1) := by decide +kernel
theorem dX9_readWord_49 : decode cX9_readWord 49 = .ok (.iload_n 1, 1) := by decide +kernel
theorem dX9_readWord_50 : decode cX9_readWord 50 = .ok (.invokevirtual 68, 3) := by decide +kernel
theorem dX9_readWord_53 : decode cX9_readWord 53 = .ok (.goto 10, 3) := by decide +kernel
theorem dX9_readWord_56 : decode cX9_readWord 56 = .ok (.aload_n 0, 1) := by decide +kernel
theorem dX9_readWord_57 : decode cX9_readWord 57 = .ok (.iload_n 2, 1) := by decide +kernel
theorem dX9_readWord_58 : decode cX9_readWord 58 = .ok (.iconst 1, 1) := by decide +kernel
theorem dX9_readWord_59 : decode cX9_readWord 59 = .ok (.isub, 1) := by decide +kernel
theorem dX9_readWord_60 : decode cX9_readWord 60 = .ok (.invokevirtual 72, 3) := by decide +kernel
theorem dX9_readWord_63 : decode cX9_readWord 63 = .ok (.ireturn, 1) := by decide +kernel
theorem dX9_readBind_0 : decode cX9_readBind 0 = .ok (.aload_n 0, 1) := by decide +kernel
theorem dX9_readBind_1 : decode cX9_readBind 1 = .ok (.getfield 24, 3) := by decide +kernel
theorem dX9_readBind_4 : decode cX9_readBind 4 = .ok (.iconst 0, 1) := by decide +kernel
theorem dX9_readBind_5 : decode cX9_readBind 5 = .ok (.bipush 9, 2) := by decide +kernel
theorem dX9_readBind_7 : decode cX9_readBind 7 = .ok (.invokevirtual 54, 3) := by decide +kernel
theorem dX9_readBind_10 : decode cX9_readBind 10 = .ok (.ifCond .ne 5, 3) := by decide +kernel
theorem dX9_readBind_13 : decode cX9_readBind 13 = .ok (.iconst 0, 1) := by decide +kernel
theorem dX9_readBind_14 : decode cX9_readBind 14 = .ok (.ireturn, 1) := by decide +kernel
theorem dX9_readBind_15 : decode cX9_readBind 15 = .ok (.aload_n 0, 1) := by decide +kernel
theorem dX9_readBind_16 : decode cX9_readBind 16 = .ok (.aload_n 0, 1) := by decide +kernel
theorem dX9_readBind_17 : decode cX9_readBind 17 = .ok (.getfield 28, 3) := by decide +kernel
theorem dX9_readBind_20 : decode cX9_readBind 20 = .ok (.invokevirtual 75, 3) := by decide +kernel
theorem dX9_readBind_23 : decode cX9_readBind 23 = .ok (.aload_n 0, 1) := by decide +kernel
theorem dX9_readBind_24 : decode cX9_readBind 24 = .ok (.getfield 24, 3) := by decide +kernel
theorem dX9_readBind_27 : decode cX9_readBind 27 = .ok (.invokevirtual 58, 3) := by decide +kernel
theorem dX9_readBind_30 : decode cX9_readBind 30 = .ok (.iconst 1, 1) := by decide +kernel
theorem dX9_readBind_31 : decode cX9_readBind 31 = .ok (.invokevirtual 78, 3) := by decide +kernel
theorem dX9_readBind_34 : decode cX9_readBind 34 = .ok (.iconst 1, 1) := by decide +kernel
theorem dX9_readBind_35 : decode cX9_readBind 35 = .ok (.ireturn, 1) := by decide +kernel
theorem dX9_readStand_0 : decode cX9_readStand 0 = .ok (.aload_n 0, 1) := by decide +kernel
theorem dX9_readStand_1 : decode cX9_readStand 1 = .ok (.getfield 24, 3) := by decide +kernel
theorem dX9_readStand_4 : decode cX9_readStand 4 = .ok (.iconst 0, 1) := by decide +kernel
theorem dX9_readStand_5 : decode cX9_readStand 5 = .ok (.bipush 9, 2) := by decide +kernel
theorem dX9_readStand_7 : decode cX9_readStand 7 = .ok (.invokevirtual 54, 3) := by decide +kernel
theorem dX9_readStand_10 : decode cX9_readStand 10 = .ok (.ifCond .ne 5, 3) := by decide +kernel
theorem dX9_readStand_13 : decode cX9_readStand 13 = .ok (.iconst 0, 1) := by decide +kernel
theorem dX9_readStand_14 : decode cX9_readStand 14 = .ok (.ireturn, 1) := by decide +kernel
theorem dX9_readStand_15 : decode cX9_readStand 15 = .ok (.aload_n 0, 1) := by decide +kernel
theorem dX9_readStand_16 : decode cX9_readStand 16 = .ok (.getfield 32, 3) := by decide +kernel
theorem dX9_readStand_19 : decode cX9_readStand 19 = .ok (.iconst 1, 1) := by decide +kernel
theorem dX9_readStand_20 : decode cX9_readStand 20 = .ok (.isub, 1) := by decide +kernel
theorem dX9_readStand_21 : decode cX9_readStand 21 = .ok (.istore_n 2, 1) := by decide +kernel
theorem dX9_readStand_22 : decode cX9_readStand 22 = .ok (.iload_n 2, 1) := by decide +kernel
theorem dX9_readStand_23 : decode cX9_readStand 23 = .ok (.ifCond .lt 25, 3) := by decide +kernel
theorem dX9_readStand_26 : decode cX9_readStand 26 = .ok (.aload_n 0, 1) := by decide +kernel
theorem dX9_readStand_27 : decode cX9_readStand 27 = .ok (.getfield 15, 3) := by decide +kernel
theorem dX9_readStand_30 : decode cX9_readStand 30 = .ok (.iload_n 2, 1) := by decide +kernel
theorem dX9_readStand_31 : decode cX9_readStand 31 = .ok (.iaload, 1) := by decide +kernel
theorem dX9_readStand_32 : decode cX9_readStand 32 = .ok (.aload_n 0, 1) := by decide +kernel
theorem dX9_readStand_33 : decode cX9_readStand 33 = .ok (.getfield 24, 3) := by decide +kernel
theorem dX9_readStand_36 : decode cX9_readStand 36 = .ok (.invokevirtual 58, 3) := by decide +kernel
theorem dX9_readStand_39 : decode cX9_readStand 39 = .ok (.if_icmp .eq 9, 3) := by decide +kernel
theorem dX9_readStand_42 : decode cX9_readStand 42 = .ok (.iinc 2 (-1), 3) := by decide +kernel
theorem dX9_readStand_45 : decode cX9_readStand 45 = .ok (.goto (-23), 3) := by decide +kernel
theorem dX9_readStand_48 : decode cX9_readStand 48 = .ok (.iload_n 2, 1) := by decide +kernel
theorem dX9_readStand_49 : decode cX9_readStand 49 = .ok (.ifCond .lt 19, 3) := by decide +kernel
theorem dX9_readStand_52 : decode cX9_readStand 52 = .ok (.aload_n 0, 1) := by decide +kernel
theorem dX9_readStand_53 : decode cX9_readStand 53 = .ok (.getfield 9, 3) := by decide +kernel
theorem dX9_readStand_56 : decode cX9_readStand 56 = .ok (.iload_n 2, 1) := by decide +kernel
theorem dX9_readStand_57 : decode cX9_readStand 57 = .ok (.iaload, 1) := by decide +kernel
theorem dX9_readStand_58 : decode cX9_readStand 58 = .ok (.aload_n 0, 1) := by decide +kernel
theorem dX9_readStand_59 : decode cX9_readStand 59 = .ok (.getfield 28, 3) := by decide +kernel
theorem dX9_readStand_62 : decode cX9_readStand 62 = .ok (.invokevirtual 75, 3) := by decide +kernel
theorem dX9_readStand_65 : decode cX9_readStand 65 = .ok (.if_icmp .lt 14, 3) := by decide +kernel
theorem dX9_readStand_68 : decode cX9_readStand 68 = .ok (.aload_n 0, 1) := by decide +kernel
theorem dX9_readStand_69 : decode cX9_readStand 69 = .ok (.getfield 24, 3) := by decide +kernel
theorem dX9_readStand_72 : decode cX9_readStand 72 = .ok (.bipush (-13), 2) := by decide +kernel
theorem dX9_readStand_74 : decode cX9_readStand 74 = .ok (.iload_n 1, 1) := by decide +kernel
theorem dX9_readStand_75 : decode cX9_readStand 75 = .ok (.invokevirtual 82, 3) := by decide +kernel
theorem dX9_readStand_78 : decode cX9_readStand 78 = .ok (.ireturn, 1) := by decide +kernel
theorem dX9_readStand_79 : decode cX9_readStand 79 = .ok (.aload_n 0, 1) := by decide +kernel
theorem dX9_readStand_80 : decode cX9_readStand 80 = .ok (.aload_n 0, 1) := by decide +kernel
theorem dX9_readStand_81 : decode cX9_readStand 81 = .ok (.getfield 9, 3) := by decide +kernel
theorem dX9_readStand_84 : decode cX9_readStand 84 = .ok (.iload_n 2, 1) := by decide +kernel
theorem dX9_readStand_85 : decode cX9_readStand 85 = .ok (.iaload, 1) := by decide +kernel
theorem dX9_readStand_86 : decode cX9_readStand 86 = .ok (.invokevirtual 85, 3) := by decide +kernel
theorem dX9_readStand_89 : decode cX9_readStand 89 = .ok (.iconst 1, 1) := by decide +kernel
theorem dX9_readStand_90 : decode cX9_readStand 90 = .ok (.ireturn, 1) := by decide +kernel
theorem dX9_readNode_0 : decode cX9_readNode 0 = .ok (.aload_n 0, 1) := by decide +kernel
theorem dX9_readNode_1 : decode cX9_readNode 1 = .ok (.getfield 28, 3) := by decide +kernel
theorem dX9_readNode_4 : decode cX9_readNode 4 = .ok (.iload_n 1, 1) := by decide +kernel
theorem dX9_readNode_5 : decode cX9_readNode 5 = .ok (.invokevirtual 89, 3) := by decide +kernel
theorem dX9_readNode_8 : decode cX9_readNode 8 = .ok (.istore_n 2, 1) := by decide +kernel
theorem dX9_readNode_9 : decode cX9_readNode 9 = .ok (.iload_n 1, 1) := by decide +kernel
theorem dX9_readNode_10 : decode cX9_readNode 10 = .ok (.iconst 4, 1) := by decide +kernel
theorem dX9_readNode_11 : decode cX9_readNode 11 = .ok (.if_icmp .ne 7, 3) := by decide +kernel
theorem dX9_readNode_14 : decode cX9_readNode 14 = .ok (.iconst 2, 1) := by decide +kernel
theorem dX9_readNode_15 : decode cX9_readNode 15 = .ok (.goto 4, 3) := by decide +kernel
theorem dX9_readNode_18 : decode cX9_readNode 18 = .ok (.iconst 0, 1) := by decide +kernel
theorem dX9_readNode_19 : decode cX9_readNode 19 = .ok (.istore_n 3, 1) := by decide +kernel
theorem dX9_readNode_20 : decode cX9_readNode 20 = .ok (.iload_n 1, 1) := by decide +kernel
theorem dX9_readNode_21 : decode cX9_readNode 21 = .ok (.iconst 5, 1) := by decide +kernel
theorem dX9_readNode_22 : decode cX9_readNode 22 = .ok (.if_icmp .eq 9, 3) := by decide +kernel
theorem dX9_readNode_25 : decode cX9_readNode 25 = .ok (.iload_n 1, 1) := by decide +kernel
theorem dX9_readNode_26 : decode cX9_readNode 26 = .ok (.bipush 6, 2) := by decide +kernel
theorem dX9_readNode_28 : decode cX9_readNode 28 = .ok (.if_icmp .ne 26, 3) := by decide +kernel
theorem dX9_readNode_31 : decode cX9_readNode 31 = .ok (.aload_n 0, 1) := by decide +kernel
theorem dX9_readNode_32 : decode cX9_readNode 32 = .ok (.getfield 24, 3) := by decide +kernel
theorem dX9_readNode_35 : decode cX9_readNode 35 = .ok (.iconst 0, 1) := by decide +kernel
theorem dX9_readNode_36 : decode cX9_readNode 36 = .ok (.bipush 8, 2) := by decide +kernel
theorem dX9_readNode_38 : decode cX9_readNode 38 = .ok (.invokevirtual 54, 3) := by decide +kernel
theorem dX9_readNode_41 : decode cX9_readNode 41 = .ok (.ifCond .ne 5, 3) := by decide +kernel
theorem dX9_readNode_44 : decode cX9_readNode 44 = .ok (.iconst 0, 1) := by decide +kernel
theorem dX9_readNode_45 : decode cX9_readNode 45 = .ok (.ireturn, 1) := by decide +kernel
theorem dX9_readNode_46 : decode cX9_readNode 46 = .ok (.aload_n 0, 1) := by decide +kernel
theorem dX9_readNode_47 : decode cX9_readNode 47 = .ok (.getfield 24, 3) := by decide +kernel
theorem dX9_readNode_50 : decode cX9_readNode 50 = .ok (.invokevirtual 58, 3) := by decide +kernel
theorem dX9_readNode_53 : decode cX9_readNode 53 = .ok (.istore_n 3, 1) := by decide +kernel
theorem dX9_readNode_54 : decode cX9_readNode 54 = .ok (.iload_n 3, 1) := by decide +kernel
theorem dX9_readNode_55 : decode cX9_readNode 55 = .ok (.ifCond .le 13, 3) := by decide +kernel
theorem dX9_readNode_58 : decode cX9_readNode 58 = .ok (.aload_n 0, 1) := by decide +kernel
theorem dX9_readNode_59 : decode cX9_readNode 59 = .ok (.iload_n 2, 1) := by decide +kernel
theorem dX9_readNode_60 : decode cX9_readNode 60 = .ok (.iconst (-1), 1) := by decide +kernel
theorem dX9_readNode_61 : decode cX9_readNode 61 = .ok (.iload_n 3, 1) := by decide +kernel
theorem dX9_readNode_62 : decode cX9_readNode 62 = .ok (.invokevirtual 78, 3) := by decide +kernel
theorem dX9_readNode_65 : decode cX9_readNode 65 = .ok (.goto 8, 3) := by decide +kernel
theorem dX9_readNode_68 : decode cX9_readNode 68 = .ok (.aload_n 0, 1) := by decide +kernel
theorem dX9_readNode_69 : decode cX9_readNode 69 = .ok (.iload_n 2, 1) := by decide +kernel
theorem dX9_readNode_70 : decode cX9_readNode 70 = .ok (.invokevirtual 85, 3) := by decide +kernel
theorem dX9_readNode_73 : decode cX9_readNode 73 = .ok (.iconst 1, 1) := by decide +kernel
theorem dX9_readNode_74 : decode cX9_readNode 74 = .ok (.ireturn, 1) := by decide +kernel
theorem dX9_push_0 : decode cX9_push 0 = .ok (.aload_n 0, 1) := by decide +kernel
theorem dX9_push_1 : decode cX9_push 1 = .ok (.getfield 32, 3) := by decide +kernel
theorem dX9_push_4 : decode cX9_push 4 = .ok (.sipush 200, 3) := by decide +kernel
theorem dX9_push_7 : decode cX9_push 7 = .ok (.if_icmp .ge 53, 3) := by decide +kernel
theorem dX9_push_10 : decode cX9_push 10 = .ok (.aload_n 0, 1) := by decide +kernel
theorem dX9_push_11 : decode cX9_push 11 = .ok (.getfield 9, 3) := by decide +kernel
theorem dX9_push_14 : decode cX9_push 14 = .ok (.aload_n 0, 1) := by decide +kernel
theorem dX9_push_15 : decode cX9_push 15 = .ok (.getfield 32, 3) := by decide +kernel
theorem dX9_push_18 : decode cX9_push 18 = .ok (.iload_n 1, 1) := by decide +kernel
theorem dX9_push_19 : decode cX9_push 19 = .ok (.iastore, 1) := by decide +kernel
theorem dX9_push_20 : decode cX9_push 20 = .ok (.aload_n 0, 1) := by decide +kernel
theorem dX9_push_21 : decode cX9_push 21 = .ok (.getfield 15, 3) := by decide +kernel
theorem dX9_push_24 : decode cX9_push 24 = .ok (.aload_n 0, 1) := by decide +kernel
theorem dX9_push_25 : decode cX9_push 25 = .ok (.getfield 32, 3) := by decide +kernel
theorem dX9_push_28 : decode cX9_push 28 = .ok (.iload_n 2, 1) := by decide +kernel
theorem dX9_push_29 : decode cX9_push 29 = .ok (.iastore, 1) := by decide +kernel
theorem dX9_push_30 : decode cX9_push 30 = .ok (.aload_n 0, 1) := by decide +kernel
theorem dX9_push_31 : decode cX9_push 31 = .ok (.getfield 18, 3) := by decide +kernel
theorem dX9_push_34 : decode cX9_push 34 = .ok (.aload_n 0, 1) := by decide +kernel
theorem dX9_push_35 : decode cX9_push 35 = .ok (.getfield 32, 3) := by decide +kernel
theorem dX9_push_38 : decode cX9_push 38 = .ok (.iload_n 3, 1) := by decide +kernel
theorem dX9_push_39 : decode cX9_push 39 = .ok (.iastore, 1) := by decide +kernel
theorem dX9_push_40 : decode cX9_push 40 = .ok (.aload_n 0, 1) := by decide +kernel
theorem dX9_push_41 : decode cX9_push 41 = .ok (.getfield 21, 3) := by decide +kernel
theorem dX9_push_44 : decode cX9_push 44 = .ok (.aload_n 0, 1) := by decide +kernel
theorem dX9_push_45 : decode cX9_push 45 = .ok (.getfield 32, 3) := by decide +kernel
theorem dX9_push_48 : decode cX9_push 48 = .ok (.iconst (-1), 1) := by decide +kernel
theorem dX9_push_49 : decode cX9_push 49 = .ok (.iastore, 1) := by decide +kernel
theorem dX9_push_50 : decode cX9_push 50 = .ok (.aload_n 0, 1) := by decide +kernel
theorem dX9_push_51 : decode cX9_push 51 = .ok (.dup, 1) := by decide +kernel
theorem dX9_push_52 : decode cX9_push 52 = .ok (.getfield 32, 3) := by decide +kernel
theorem dX9_push_55 : decode cX9_push 55 = .ok (.iconst 1, 1) := by decide +kernel
theorem dX9_push_56 : decode cX9_push 56 = .ok (.iadd, 1) := by decide +kernel
theorem dX9_push_57 : decode cX9_push 57 = .ok (.putfield 32, 3) := by decide +kernel
theorem dX9_push_60 : decode cX9_push 60 = .ok (.return_, 1) := by decide +kernel
theorem dX9_settle_0 : decode cX9_settle 0 = .ok (.iload_n 1, 1) := by decide +kernel
theorem dX9_settle_1 : decode cX9_settle 1 = .ok (.istore_n 2, 1) := by decide +kernel
theorem dX9_settle_2 : decode cX9_settle 2 = .ok (.aload_n 0, 1) := by decide +kernel
theorem dX9_settle_3 : decode cX9_settle 3 = .ok (.getfield 32, 3) := by decide +kernel
theorem dX9_settle_6 : decode cX9_settle 6 = .ok (.iconst 1, 1) := by decide +kernel
theorem dX9_settle_7 : decode cX9_settle 7 = .ok (.isub, 1) := by decide +kernel
theorem dX9_settle_8 : decode cX9_settle 8 = .ok (.istore_n 3, 1) := by decide +kernel
theorem dX9_settle_9 : decode cX9_settle 9 = .ok (.iload_n 3, 1) := by decide +kernel
theorem dX9_settle_10 : decode cX9_settle 10 = .ok (.ifCond .lt 71, 3) := by decide +kernel
theorem dX9_settle_13 : decode cX9_settle 13 = .ok (.aload_n 0, 1) := by decide +kernel
theorem dX9_settle_14 : decode cX9_settle 14 = .ok (.getfield 15, 3) := by decide +kernel
theorem dX9_settle_17 : decode cX9_settle 17 = .ok (.iload_n 3, 1) := by decide +kernel
theorem dX9_settle_18 : decode cX9_settle 18 = .ok (.iaload, 1) := by decide +kernel
theorem dX9_settle_19 : decode cX9_settle 19 = .ok (.iconst (-1), 1) := by decide +kernel
theorem dX9_settle_20 : decode cX9_settle 20 = .ok (.if_icmp .ne 30, 3) := by decide +kernel
theorem dX9_settle_23 : decode cX9_settle 23 = .ok (.aload_n 0, 1) := by decide +kernel
theorem dX9_settle_24 : decode cX9_settle 24 = .ok (.getfield 28, 3) := by decide +kernel
theorem dX9_settle_27 : decode cX9_settle 27 = .ok (.aload_n 0, 1) := by decide +kernel
theorem dX9_settle_28 : decode cX9_settle 28 = .ok (.getfield 9, 3) := by decide +kernel
theorem dX9_settle_31 : decode cX9_settle 31 = .ok (.iload_n 3, 1) := by decide +kernel
theorem dX9_settle_32 : decode cX9_settle 32 = .ok (.iaload, 1) := by decide +kernel
theorem dX9_settle_33 : decode cX9_settle 33 = .ok (.aload_n 0, 1) := by decide +kernel
theorem dX9_settle_34 : decode cX9_settle 34 = .ok (.getfield 21, 3) := by decide +kernel
theorem dX9_settle_37 : decode cX9_settle 37 = .ok (.iload_n 3, 1) := by decide +kernel
theorem dX9_settle_38 : decode cX9_settle 38 = .ok (.iaload, 1) := by decide +kernel
theorem dX9_settle_39 : decode cX9_settle 39 = .ok (.iload_n 2, 1) := by decide +kernel
theorem dX9_settle_40 : decode cX9_settle 40 = .ok (.invokevirtual 92, 3) := by decide +kernel
theorem dX9_settle_43 : decode cX9_settle 43 = .ok (.aload_n 0, 1) := by decide +kernel
theorem dX9_settle_44 : decode cX9_settle 44 = .ok (.getfield 9, 3) := by decide +kernel
theorem dX9_settle_47 : decode cX9_settle 47 = .ok (.iload_n 3, 1) := by decide +kernel
theorem dX9_settle_48 : decode cX9_settle 48 = .ok (.iaload, 1) := by decide +kernel
theorem dX9_settle_49 : decode cX9_settle 49 = .ok (.istore_n 2, 1) := by decide +kernel
theorem dX9_settle_50 : decode cX9_settle 50 = .ok (.aload_n 0, 1) := by decide +kernel
theorem dX9_settle_51 : decode cX9_settle 51 = .ok (.getfield 18, 3) := by decide +kernel
theorem dX9_settle_54 : decode cX9_settle 54 = .ok (.iload_n 3, 1) := by decide +kernel
theorem dX9_settle_55 : decode cX9_settle 55 = .ok (.dup2, 1) := by decide +kernel
theorem dX9_settle_56 : decode cX9_settle 56 = .ok (.iaload, 1) := by decide +kernel
theorem dX9_settle_57 : decode cX9_settle 57 = .ok (.iconst 1, 1) := by decide +kernel
theorem dX9_settle_58 : decode cX9_settle 58 = .ok (.isub, 1) := by decide +kernel
theorem dX9_settle_59 : decode cX9_settle 59 = .ok (.iastore, 1) := by decide +kernel
theorem dX9_settle_60 : decode cX9_settle 60 = .ok (.aload_n 0, 1) := by decide +kernel
theorem dX9_settle_61 : decode cX9_settle 61 = .ok (.getfield 18, 3) := by decide +kernel
theorem dX9_settle_64 : decode cX9_settle 64 = .ok (.iload_n 3, 1) := by decide +kernel
theorem dX9_settle_65 : decode cX9_settle 65 = .ok (.iaload, 1) := by decide +kernel
theorem dX9_settle_66 : decode cX9_settle 66 = .ok (.ifCond .le 4, 3) := by decide +kernel
theorem dX9_settle_69 : decode cX9_settle 69 = .ok (.return_, 1) := by decide +kernel
theorem dX9_settle_70 : decode cX9_settle 70 = .ok (.aload_n 0, 1) := by decide +kernel
theorem dX9_settle_71 : decode cX9_settle 71 = .ok (.iload_n 3, 1) := by decide +kernel
theorem dX9_settle_72 : decode cX9_settle 72 = .ok (.putfield 32, 3) := by decide +kernel
theorem dX9_settle_75 : decode cX9_settle 75 = .ok (.iinc 3 (-1), 3) := by decide +kernel
theorem dX9_settle_78 : decode cX9_settle 78 = .ok (.goto (-69), 3) := by decide +kernel
theorem dX9_settle_81 : decode cX9_settle 81 = .ok (.return_, 1) := by decide +kernel
theorem dX10_init_0 : decode cX10_init 0 = .ok (.aload_n 0, 1) := by decide +kernel
theorem dX10_init_1 : decode cX10_init 1 = .ok (.invokespecial 3, 3) := by decide +kernel
theorem dX10_init_4 : decode cX10_init 4 = .ok (.aload_n 0, 1) := by decide +kernel
theorem dX10_init_5 : decode cX10_init 5 = .ok (.sipush 2000, 3) := by decide +kernel
theorem dX10_init_8 : decode cX10_init 8 = .ok (.newarray .int, 2) := by decide +kernel
theorem dX10_init_10 : decode cX10_init 10 = .ok (.putfield 9, 3) := by decide +kernel
theorem dX10_init_13 : decode cX10_init 13 = .ok (.aload_n 0, 1) := by decide +kernel
theorem dX10_init_14 : decode cX10_init 14 = .ok (.sipush 2000, 3) := by decide +kernel
theorem dX10_init_17 : decode cX10_init 17 = .ok (.newarray .int, 2) := by decide +kernel
theorem dX10_init_19 : decode cX10_init 19 = .ok (.putfield 15, 3) := by decide +kernel
theorem dX10_init_22 : decode cX10_init 22 = .ok (.aload_n 0, 1) := by decide +kernel
theorem dX10_init_23 : decode cX10_init 23 = .ok (.sipush 16000, 3) := by decide +kernel
theorem dX10_init_26 : decode cX10_init 26 = .ok (.newarray .int, 2) := by decide +kernel
theorem dX10_init_28 : decode cX10_init 28 = .ok (.putfield 18, 3) := by decide +kernel
theorem dX10_init_31 : decode cX10_init 31 = .ok (.aload_n 0, 1) := by decide +kernel
theorem dX10_init_32 : decode cX10_init 32 = .ok (.sipush 2000, 3) := by decide +kernel
theorem dX10_init_35 : decode cX10_init 35 = .ok (.newarray .int, 2) := by decide +kernel
theorem dX10_init_37 : decode cX10_init 37 = .ok (.putfield 21, 3) := by decide +kernel
theorem dX10_init_40 : decode cX10_init 40 = .ok (.aload_n 0, 1) := by decide +kernel
theorem dX10_init_41 : decode cX10_init 41 = .ok (.sipush 2000, 3) := by decide +kernel
theorem dX10_init_44 : decode cX10_init 44 = .ok (.newarray .int, 2) := by decide +kernel
theorem dX10_init_46 : decode cX10_init 46 = .ok (.putfield 24, 3) := by decide +kernel
theorem dX10_init_49 : decode cX10_init 49 = .ok (.return_, 1) := by decide +kernel
theorem dX10_size_0 : decode cX10_size 0 = .ok (.aload_n 0, 1) := by decide +kernel
theorem dX10_size_1 : decode cX10_size 1 = .ok (.getfield 27, 3) := by decide +kernel
theorem dX10_size_4 : decode cX10_size 4 = .ok (.ireturn, 1) := by decide +kernel
theorem dX10_empty_0 : decode cX10_empty 0 = .ok (.aload_n 0, 1) := by decide +kernel
theorem dX10_empty_1 : decode cX10_empty 1 = .ok (.iconst 0, 1) := by decide +kernel
theorem dX10_empty_2 : decode cX10_empty 2 = .ok (.putfield 27, 3) := by decide +kernel
theorem dX10_empty_5 : decode cX10_empty 5 = .ok (.return_, 1) := by decide +kernel
theorem dX10_has_0 : decode cX10_has 0 = .ok (.iload_n 1, 1) := by decide +kernel
theorem dX10_has_1 : decode cX10_has 1 = .ok (.ifCond .lt 15, 3) := by decide +kernel
theorem dX10_has_4 : decode cX10_has 4 = .ok (.iload_n 1, 1) := by decide +kernel
theorem dX10_has_5 : decode cX10_has 5 = .ok (.aload_n 0, 1) := by decide +kernel
theorem dX10_has_6 : decode cX10_has 6 = .ok (.getfield 27, 3) := by decide +kernel
theorem dX10_has_9 : decode cX10_has 9 = .ok (.if_icmp .ge 7, 3) := by decide +kernel
theorem dX10_has_12 : decode cX10_has 12 = .ok (.iconst 1, 1) := by decide +kernel
theorem dX10_has_13 : decode cX10_has 13 = .ok (.goto 4, 3) := by decide +kernel
theorem dX10_has_16 : decode cX10_has 16 = .ok (.iconst 0, 1) := by decide +kernel
theorem dX10_has_17 : decode cX10_has 17 = .ok (.ireturn, 1) := by decide +kernel
theorem dX10_add_0 : decode cX10_add 0 = .ok (.aload_n 0, 1) := by decide +kernel
theorem dX10_add_1 : decode cX10_add 1 = .ok (.getfield 27, 3) := by decide +kernel
theorem dX10_add_4 : decode cX10_add 4 = .ok (.sipush 2000, 3) := by decide +kernel
theorem dX10_add_7 : decode cX10_add 7 = .ok (.if_icmp .lt 5, 3) := by decide +kernel
theorem dX10_add_10 : decode cX10_add 10 = .ok (.iconst (-1), 1) := by decide +kernel
theorem dX10_add_11 : decode cX10_add 11 = .ok (.ireturn, 1) := by decide +kernel
theorem dX10_add_12 : decode cX10_add 12 = .ok (.aload_n 0, 1) := by decide +kernel
theorem dX10_add_13 : decode cX10_add 13 = .ok (.getfield 9, 3) := by decide +kernel
theorem dX10_add_16 : decode cX10_add 16 = .ok (.aload_n 0, 1) := by decide +kernel
theorem dX10_add_17 : decode cX10_add 17 = .ok (.getfield 27, 3) := by decide +kernel
theorem dX10_add_20 : decode cX10_add 20 = .ok (.iload_n 1, 1) := by decide +kernel
theorem dX10_add_21 : decode cX10_add 21 = .ok (.iastore, 1) := by decide +kernel
theorem dX10_add_22 : decode cX10_add 22 = .ok (.aload_n 0, 1) := by decide +kernel
theorem dX10_add_23 : decode cX10_add 23 = .ok (.getfield 15, 3) := by decide +kernel
theorem dX10_add_26 : decode cX10_add 26 = .ok (.aload_n 0, 1) := by decide +kernel
theorem dX10_add_27 : decode cX10_add 27 = .ok (.getfield 27, 3) := by decide +kernel
theorem dX10_add_30 : decode cX10_add 30 = .ok (.iload_n 2, 1) := by decide +kernel
theorem dX10_add_31 : decode cX10_add 31 = .ok (.iastore, 1) := by decide +kernel
theorem dX10_add_32 : decode cX10_add 32 = .ok (.aload_n 0, 1) := by decide +kernel
theorem dX10_add_33 : decode cX10_add 33 = .ok (.getfield 21, 3) := by decide +kernel
theorem dX10_add_36 : decode cX10_add 36 = .ok (.aload_n 0, 1) := by decide +kernel
theorem dX10_add_37 : decode cX10_add 37 = .ok (.getfield 27, 3) := by decide +kernel
theorem dX10_add_40 : decode cX10_add 40 = .ok (.iconst (-1), 1) := by decide +kernel
theorem dX10_add_41 : decode cX10_add 41 = .ok (.iastore, 1) := by decide +kernel
theorem dX10_add_42 : decode cX10_add 42 = .ok (.aload_n 0, 1) := by decide +kernel
theorem dX10_add_43 : decode cX10_add 43 = .ok (.getfield 24, 3) := by decide +kernel
theorem dX10_add_46 : decode cX10_add 46 = .ok (.aload_n 0, 1) := by decide +kernel
theorem dX10_add_47 : decode cX10_add 47 = .ok (.getfield 27, 3) := by decide +kernel
theorem dX10_add_50 : decode cX10_add 50 = .ok (.iconst (-1), 1) := by decide +kernel
theorem dX10_add_51 : decode cX10_add 51 = .ok (.iastore, 1) := by decide +kernel
theorem dX10_add_52 : decode cX10_add 52 = .ok (.aload_n 0, 1) := by decide +kernel
theorem dX10_add_53 : decode cX10_add 53 = .ok (.dup, 1) := by decide +kernel
theorem dX10_add_54 : decode cX10_add 54 = .ok (.getfield 27, 3) := by decide +kernel
theorem dX10_add_57 : decode cX10_add 57 = .ok (.iconst 1, 1) := by decide +kernel
theorem dX10_add_58 : decode cX10_add 58 = .ok (.iadd, 1) := by decide +kernel
theorem dX10_add_59 : decode cX10_add 59 = .ok (.putfield 27, 3) := by decide +kernel
theorem dX10_add_62 : decode cX10_add 62 = .ok (.aload_n 0, 1) := by decide +kernel
theorem dX10_add_63 : decode cX10_add 63 = .ok (.getfield 27, 3) := by decide +kernel
theorem dX10_add_66 : decode cX10_add 66 = .ok (.iconst 1, 1) := by decide +kernel
theorem dX10_add_67 : decode cX10_add 67 = .ok (.isub, 1) := by decide +kernel
theorem dX10_add_68 : decode cX10_add 68 = .ok (.ireturn, 1) := by decide +kernel
theorem dX10_setPart_0 : decode cX10_setPart 0 = .ok (.aload_n 0, 1) := by decide +kernel
theorem dX10_setPart_1 : decode cX10_setPart 1 = .ok (.iload_n 1, 1) := by decide +kernel
theorem dX10_setPart_2 : decode cX10_setPart 2 = .ok (.invokevirtual 31, 3) := by decide +kernel
theorem dX10_setPart_5 : decode cX10_setPart 5 = .ok (.ifCond .eq 25, 3) := by decide +kernel
theorem dX10_setPart_8 : decode cX10_setPart 8 = .ok (.iload_n 2, 1) := by decide +kernel
theorem dX10_setPart_9 : decode cX10_setPart 9 = .ok (.ifCond .lt 21, 3) := by decide +kernel
theorem dX10_setPart_12 : decode cX10_setPart 12 = .ok (.iload_n 2, 1) := by decide +kernel
theorem dX10_setPart_13 : decode cX10_setPart 13 = .ok (.bipush 8, 2) := by decide +kernel
theorem dX10_setPart_15 : decode cX10_setPart 15 = .ok (.if_icmp .ge 15, 3) := by decide +kernel
theorem dX10_setPart_18 : decode cX10_setPart 18 = .ok (.aload_n 0, 1) := by decide +kernel
theorem dX10_setPart_19 : decode cX10_setPart 19 = .ok (.getfield 18, 3) := by decide +kernel
theorem dX10_setPart_22 : decode cX10_setPart 22 = .ok (.iload_n 1, 1) := by decide +kernel
theorem dX10_setPart_23 : decode cX10_setPart 23 = .ok (.bipush 8, 2) := by decide +kernel
theorem dX10_setPart_25 : decode cX10_setPart 25 = .ok (.imul, 1) := by decide +kernel
theorem dX10_setPart_26 : decode cX10_setPart 26 = .ok (.iload_n 2, 1) := by decide +kernel
theorem dX10_setPart_27 : decode cX10_setPart 27 = .ok (.iadd, 1) := by decide +kernel
theorem dX10_setPart_28 : decode cX10_setPart 28 = .ok (.iload_n 3, 1) := by decide +kernel
theorem dX10_setPart_29 : decode cX10_setPart 29 = .ok (.iastore, 1) := by decide +kernel
theorem dX10_setPart_30 : decode cX10_setPart 30 = .ok (.return_, 1) := by decide +kernel
theorem dX10_setFunction_0 : decode cX10_setFunction 0 = .ok (.aload_n 0, 1) := by decide +kernel
theorem dX10_setFunction_1 : decode cX10_setFunction 1 = .ok (.iload_n 1, 1) := by decide +kernel
theorem dX10_setFunction_2 : decode cX10_setFunction 2 = .ok (.invokevirtual 31, 3) := by decide +kernel
theorem dX10_setFunction_5 : decode cX10_setFunction 5 = .ok (.ifCond .eq 17, 3) := by decide +kernel
theorem dX10_setFunction_8 : decode cX10_setFunction 8 = .ok (.aload_n 0, 1) := by decide +kernel
theorem dX10_setFunction_9 : decode cX10_setFunction 9 = .ok (.getfield 21, 3) := by decide +kernel
theorem dX10_setFunction_12 : decode cX10_setFunction 12 = .ok (.iload_n 1, 1) := by decide +kernel
theorem dX10_setFunction_13 : decode cX10_setFunction 13 = .ok (.iload_n 2, 1) := by decide +kernel
theorem dX10_setFunction_14 : decode cX10_setFunction 14 = .ok (.iastore, 1) := by decide +kernel
theorem dX10_setFunction_15 : decode cX10_setFunction 15 = .ok (.aload_n 0, 1) := by decide +kernel
theorem dX10_setFunction_16 : decode cX10_setFunction 16 = .ok (.getfield 24, 3) := by decide +kernel
theorem dX10_setFunction_19 : decode cX10_setFunction 19 = .ok (.iload_n 1, 1) := by decide +kernel
theorem dX10_setFunction_20 : decode cX10_setFunction 20 = .ok (.iload_n 3, 1) := by decide +kernel
theorem dX10_setFunction_21 : decode cX10_setFunction 21 = .ok (.iastore, 1) := by decide +kernel
theorem dX10_setFunction_22 : decode cX10_setFunction 22 = .ok (.return_, 1) := by decide +kernel
theorem dX10_kindOf_0 : decode cX10_kindOf 0 = .ok (.aload_n 0, 1) := by decide +kernel
theorem dX10_kindOf_1 : decode cX10_kindOf 1 = .ok (.iload_n 1, 1) := by decide +kernel
theorem dX10_kindOf_2 : decode cX10_kindOf 2 = .ok (.invokevirtual 31, 3) := by decide +kernel
theorem dX10_kindOf_5 : decode cX10_kindOf 5 = .ok (.ifCond .eq 12, 3) := by decide +kernel
theorem dX10_kindOf_8 : decode cX10_kindOf 8 = .ok (.aload_n 0, 1) := by decide +kernel
theorem dX10_kindOf_9 : decode cX10_kindOf 9 = .ok (.getfield 9, 3) := by decide +kernel
theorem dX10_kindOf_12 : decode cX10_kindOf 12 = .ok (.iload_n 1, 1) := by decide +kernel
theorem dX10_kindOf_13 : decode cX10_kindOf 13 = .ok (.iaload, 1) := by decide +kernel
theorem dX10_kindOf_14 : decode cX10_kindOf 14 = .ok (.goto 4, 3) := by decide +kernel
theorem dX10_kindOf_17 : decode cX10_kindOf 17 = .ok (.iconst (-1), 1) := by decide +kernel
theorem dX10_kindOf_18 : decode cX10_kindOf 18 = .ok (.ireturn, 1) := by decide +kernel
theorem dX10_numberOf_0 : decode cX10_numberOf 0 = .ok (.aload_n 0, 1) := by decide +kernel
theorem dX10_numberOf_1 : decode cX10_numberOf 1 = .ok (.iload_n 1, 1) := by decide +kernel
theorem dX10_numberOf_2 : decode cX10_numberOf 2 = .ok (.invokevirtual 31, 3) := by decide +kernel
theorem dX10_numberOf_5 : decode cX10_numberOf 5 = .ok (.ifCond .eq 12, 3) := by decide +kernel
theorem dX10_numberOf_8 : decode cX10_numberOf 8 = .ok (.aload_n 0, 1) := by decide +kernel
theorem dX10_numberOf_9 : decode cX10_numberOf 9 = .ok (.getfield 15, 3) := by decide +kernel
theorem dX10_numberOf_12 : decode cX10_numberOf 12 = .ok (.iload_n 1, 1) := by decide +kernel
theorem dX10_numberOf_13 : decode cX10_numberOf 13 = .ok (.iaload, 1) := by decide +kernel
theorem dX10_numberOf_14 : decode cX10_numberOf 14 = .ok (.goto 4, 3) := by decide +kernel
theorem dX10_numberOf_17 : decode cX10_numberOf 17 = .ok (.iconst 0, 1) := by decide +kernel
theorem dX10_numberOf_18 : decode cX10_numberOf 18 = .ok (.ireturn, 1) := by decide +kernel
theorem dX10_lambdaOf_0 : decode cX10_lambdaOf 0 = .ok (.aload_n 0, 1) := by decide +kernel
theorem dX10_lambdaOf_1 : decode cX10_lambdaOf 1 = .ok (.iload_n 1, 1) := by decide +kernel
theorem dX10_lambdaOf_2 : decode cX10_lambdaOf 2 = .ok (.invokevirtual 31, 3) := by decide +kernel
theorem dX10_lambdaOf_5 : decode cX10_lambdaOf 5 = .ok (.ifCond .eq 12, 3) := by decide +kernel
theorem dX10_lambdaOf_8 : decode cX10_lambdaOf 8 = .ok (.aload_n 0, 1) := by decide +kernel
theorem dX10_lambdaOf_9 : decode cX10_lambdaOf 9 = .ok (.getfield 21, 3) := by decide +kernel
theorem dX10_lambdaOf_12 : decode cX10_lambdaOf 12 = .ok (.iload_n 1, 1) := by decide +kernel
theorem dX10_lambdaOf_13 : decode cX10_lambdaOf 13 = .ok (.iaload, 1) := by decide +kernel
theorem dX10_lambdaOf_14 : decode cX10_lambdaOf 14 = .ok (.goto 4, 3) := by decide +kernel
theorem dX10_lambdaOf_17 : decode cX10_lambdaOf 17 = .ok (.iconst (-1), 1) := by decide +kernel
theorem dX10_lambdaOf_18 : decode cX10_lambdaOf 18 = .ok (.ireturn, 1) := by decide +kernel
theorem dX10_cellOf_0 : decode cX10_cellOf 0 = .ok (.aload_n 0, 1) := by decide +kernel
theorem dX10_cellOf_1 : decode cX10_cellOf 1 = .ok (.iload_n 1, 1) := by decide +kernel
theorem dX10_cellOf_2 : decode cX10_cellOf 2 = .ok (.invokevirtual 31, 3) := by decide +kernel
theorem dX10_cellOf_5 : decode cX10_cellOf 5 = .ok (.ifCond .eq 12, 3) := by decide +kernel
theorem dX10_cellOf_8 : decode cX10_cellOf 8 = .ok (.aload_n 0, 1) := by decide +kernel
theorem dX10_cellOf_9 : decode cX10_cellOf 9 = .ok (.getfield 24, 3) := by decide +kernel
theorem dX10_cellOf_12 : decode cX10_cellOf 12 = .ok (.iload_n 1, 1) := by decide +kernel
theorem dX10_cellOf_13 : decode cX10_cellOf 13 = .ok (.iaload, 1) := by decide +kernel
theorem dX10_cellOf_14 : decode cX10_cellOf 14 = .ok (.goto 4, 3) := by decide +kernel
theorem dX10_cellOf_17 : decode cX10_cellOf 17 = .ok (.iconst (-1), 1) := by decide +kernel
theorem dX10_cellOf_18 : decode cX10_cellOf 18 = .ok (.ireturn, 1) := by decide +kernel
theorem dX10_partOf_0 : decode cX10_partOf 0 = .ok (.aload_n 0, 1) := by decide +kernel
theorem dX10_partOf_1 : decode cX10_partOf 1 = .ok (.iload_n 1, 1) := by decide +kernel
theorem dX10_partOf_2 : decode cX10_partOf 2 = .ok (.invokevirtual 31, 3) := by decide +kernel
theorem dX10_partOf_5 : decode cX10_partOf 5 = .ok (.ifCond .eq 13, 3) := by decide +kernel
theorem dX10_partOf_8 : decode cX10_partOf 8 = .ok (.iload_n 2, 1) := by decide +kernel
theorem dX10_partOf_9 : decode cX10_partOf 9 = .ok (.ifCond .lt 9, 3) := by decide +kernel
theorem dX10_partOf_12 : decode cX10_partOf 12 = .ok (.iload_n 2, 1) := by decide +kernel
theorem dX10_partOf_13 : decode cX10_partOf 13 = .ok (.bipush 8, 2) := by decide +kernel
theorem dX10_partOf_15 : decode cX10_partOf 15 = .ok (.if_icmp .lt 5, 3) := by decide +kernel
theorem dX10_partOf_18 : decode cX10_partOf 18 = .ok (.iconst (-1), 1) := by decide +kernel
theorem dX10_partOf_19 : decode cX10_partOf 19 = .ok (.ireturn, 1) := by decide +kernel
theorem dX10_partOf_20 : decode cX10_partOf 20 = .ok (.aload_n 0, 1) := by decide +kernel
theorem dX10_partOf_21 : decode cX10_partOf 21 = .ok (.getfield 9, 3) := by decide +kernel
theorem dX10_partOf_24 : decode cX10_partOf 24 = .ok (.iload_n 1, 1) := by decide +kernel
theorem dX10_partOf_25 : decode cX10_partOf 25 = .ok (.iaload, 1) := by decide +kernel
theorem dX10_partOf_26 : decode cX10_partOf 26 = .ok (.iconst 5, 1) := by decide +kernel
theorem dX10_partOf_27 : decode cX10_partOf 27 = .ok (.if_icmp .ne 21, 3) := by decide +kernel
theorem dX10_partOf_30 : decode cX10_partOf 30 = .ok (.aload_n 0, 1) := by decide +kernel
theorem dX10_partOf_31 : decode cX10_partOf 31 = .ok (.getfield 15, 3) := by decide +kernel
theorem dX10_partOf_34 : decode cX10_partOf 34 = .ok (.iload_n 1, 1) := by decide +kernel
theorem dX10_partOf_35 : decode cX10_partOf 35 = .ok (.iaload, 1) := by decide +kernel
theorem dX10_partOf_36 : decode cX10_partOf 36 = .ok (.iload_n 2, 1) := by decide +kernel
theorem dX10_partOf_37 : decode cX10_partOf 37 = .ok (.ishr, 1) := by decide +kernel
theorem dX10_partOf_38 : decode cX10_partOf 38 = .ok (.iconst 1, 1) := by decide +kernel
theorem dX10_partOf_39 : decode cX10_partOf 39 = .ok (.iand, 1) := by decide +kernel
theorem dX10_partOf_40 : decode cX10_partOf 40 = .ok (.iconst 1, 1) := by decide +kernel
theorem dX10_partOf_41 : decode cX10_partOf 41 = .ok (.if_icmp .ne 7, 3) := by decide +kernel
theorem dX10_partOf_44 : decode cX10_partOf 44 = .ok (.iconst 1, 1) := by decide +kernel
theorem dX10_partOf_45 : decode cX10_partOf 45 = .ok (.goto 4, 3) := by decide +kernel
theorem dX10_partOf_48 : decode cX10_partOf 48 = .ok (.iconst 0, 1) := by decide +kernel
theorem dX10_partOf_49 : decode cX10_partOf 49 = .ok (.istore_n 3, 1) := by decide +kernel
theorem dX10_partOf_50 : decode cX10_partOf 50 = .ok (.aload_n 0, 1) := by decide +kernel
theorem dX10_partOf_51 : decode cX10_partOf 51 = .ok (.getfield 9, 3) := by decide +kernel
theorem dX10_partOf_54 : decode cX10_partOf 54 = .ok (.iload_n 1, 1) := by decide +kernel
theorem dX10_partOf_55 : decode cX10_partOf 55 = .ok (.iaload, 1) := by decide +kernel
theorem dX10_partOf_56 : decode cX10_partOf 56 = .ok (.bipush 6, 2) := by decide +kernel
theorem dX10_partOf_58 : decode cX10_partOf 58 = .ok (.if_icmp .ne 17, 3) := by decide +kernel
theorem dX10_partOf_61 : decode cX10_partOf 61 = .ok (.aload_n 0, 1) := by decide +kernel
theorem dX10_partOf_62 : decode cX10_partOf 62 = .ok (.getfield 15, 3) := by decide +kernel
theorem dX10_partOf_65 : decode cX10_partOf 65 = .ok (.iload_n 1, 1) := by decide +kernel
theorem dX10_partOf_66 : decode cX10_partOf 66 = .ok (.iaload, 1) := by decide +kernel
theorem dX10_partOf_67 : decode cX10_partOf 67 = .ok (.iload_n 2, 1) := by decide +kernel
theorem dX10_partOf_68 : decode cX10_partOf 68 = .ok (.if_icmp .ne 7, 3) := by decide +kernel
theorem dX10_partOf_71 : decode cX10_partOf 71 = .ok (.iconst 1, 1) := by decide +kernel
theorem dX10_partOf_72 : decode cX10_partOf 72 = .ok (.goto 4, 3) := by decide +kernel
theorem dX10_partOf_75 : decode cX10_partOf 75 = .ok (.iconst 0, 1) := by decide +kernel
theorem dX10_partOf_76 : decode cX10_partOf 76 = .ok (.istore 4, 2) := by decide +kernel
theorem dX10_partOf_78 : decode cX10_partOf 78 = .ok (.iload_n 3, 1) := by decide +kernel
theorem dX10_partOf_79 : decode cX10_partOf 79 = .ok (.ifCond .ne 8, 3) := by decide +kernel
theorem dX10_partOf_82 : decode cX10_partOf 82 = .ok (.iload 4, 2) := by decide +kernel
theorem dX10_partOf_84 : decode cX10_partOf 84 = .ok (.ifCond .eq 17, 3) := by decide +kernel
theorem dX10_partOf_87 : decode cX10_partOf 87 = .ok (.aload_n 0, 1) := by decide +kernel
theorem dX10_partOf_88 : decode cX10_partOf 88 = .ok (.getfield 18, 3) := by decide +kernel
theorem dX10_partOf_91 : decode cX10_partOf 91 = .ok (.iload_n 1, 1) := by decide +kernel
theorem dX10_partOf_92 : decode cX10_partOf 92 = .ok (.bipush 8, 2) := by decide +kernel
theorem dX10_partOf_94 : decode cX10_partOf 94 = .ok (.imul, 1) := by decide +kernel
theorem dX10_partOf_95 : decode cX10_partOf 95 = .ok (.iload_n 2, 1) := by decide +kernel
theorem dX10_partOf_96 : decode cX10_partOf 96 = .ok (.iadd, 1) := by decide +kernel
theorem dX10_partOf_97 : decode cX10_partOf 97 = .ok (.iaload, 1) := by decide +kernel
theorem dX10_partOf_98 : decode cX10_partOf 98 = .ok (.goto 4, 3) := by decide +kernel
theorem dX10_partOf_101 : decode cX10_partOf 101 = .ok (.iconst (-1), 1) := by decide +kernel
theorem dX10_partOf_102 : decode cX10_partOf 102 = .ok (.ireturn, 1) := by decide +kernel
theorem dX11_init_0 : decode cX11_init 0 = .ok (.aload_n 0, 1) := by decide +kernel
theorem dX11_init_1 : decode cX11_init 1 = .ok (.invokespecial 1, 3) := by decide +kernel
theorem dX11_init_4 : decode cX11_init 4 = .ok (.aload_n 0, 1) := by decide +kernel
theorem dX11_init_5 : decode cX11_init 5 = .ok (.new 7, 3) := by decide +kernel
theorem dX11_init_8 : decode cX11_init 8 = .ok (.dup, 1) := by decide +kernel
theorem dX11_init_9 : decode cX11_init 9 = .ok (.invokespecial 9, 3) := by decide +kernel
theorem dX11_init_12 : decode cX11_init 12 = .ok (.putfield 10, 3) := by decide +kernel
theorem dX11_init_15 : decode cX11_init 15 = .ok (.aload_n 0, 1) := by decide +kernel
theorem dX11_init_16 : decode cX11_init 16 = .ok (.new 16, 3) := by decide +kernel
theorem dX11_init_19 : decode cX11_init 19 = .ok (.dup, 1) := by decide +kernel
theorem dX11_init_20 : decode cX11_init 20 = .ok (.invokespecial 18, 3) := by decide +kernel
theorem dX11_init_23 : decode cX11_init 23 = .ok (.putfield 19, 3) := by decide +kernel
theorem dX11_init_26 : decode cX11_init 26 = .ok (.aload_n 0, 1) := by decide +kernel
theorem dX11_init_27 : decode cX11_init 27 = .ok (.new 23, 3) := by decide +kernel
theorem dX11_init_30 : decode cX11_init 30 = .ok (.dup, 1) := by decide +kernel
theorem dX11_init_31 : decode cX11_init 31 = .ok (.aload_n 0, 1) := by decide +kernel
theorem dX11_init_32 : decode cX11_init 32 = .ok (.getfield 19, 3) := by decide +kernel
theorem dX11_init_35 : decode cX11_init 35 = .ok (.invokespecial 25, 3) := by decide +kernel
theorem dX11_init_38 : decode cX11_init 38 = .ok (.putfield 28, 3) := by decide +kernel
theorem dX11_init_41 : decode cX11_init 41 = .ok (.aload_n 0, 1) := by decide +kernel
theorem dX11_init_42 : decode cX11_init 42 = .ok (.new 32, 3) := by decide +kernel
theorem dX11_init_45 : decode cX11_init 45 = .ok (.dup, 1) := by decide +kernel
theorem dX11_init_46 : decode cX11_init 46 = .ok (.aload_n 0, 1) := by decide +kernel
theorem dX11_init_47 : decode cX11_init 47 = .ok (.getfield 19, 3) := by decide +kernel
theorem dX11_init_50 : decode cX11_init 50 = .ok (.invokespecial 34, 3) := by decide +kernel
theorem dX11_init_53 : decode cX11_init 53 = .ok (.putfield 35, 3) := by decide +kernel
theorem dX11_init_56 : decode cX11_init 56 = .ok (.aload_n 0, 1) := by decide +kernel
theorem dX11_init_57 : decode cX11_init 57 = .ok (.new 39, 3) := by decide +kernel
theorem dX11_init_60 : decode cX11_init 60 = .ok (.dup, 1) := by decide +kernel
theorem dX11_init_61 : decode cX11_init 61 = .ok (.invokespecial 41, 3) := by decide +kernel
theorem dX11_init_64 : decode cX11_init 64 = .ok (.putfield 42, 3) := by decide +kernel
theorem dX11_init_67 : decode cX11_init 67 = .ok (.aload_n 0, 1) := by decide +kernel
theorem dX11_init_68 : decode cX11_init 68 = .ok (.new 39, 3) := by decide +kernel
theorem dX11_init_71 : decode cX11_init 71 = .ok (.dup, 1) := by decide +kernel
theorem dX11_init_72 : decode cX11_init 72 = .ok (.invokespecial 41, 3) := by decide +kernel
theorem dX11_init_75 : decode cX11_init 75 = .ok (.putfield 46, 3) := by decide +kernel
theorem dX11_init_78 : decode cX11_init 78 = .ok (.aload_n 0, 1) := by decide +kernel
theorem dX11_init_79 : decode cX11_init 79 = .ok (.new 49, 3) := by decide +kernel
theorem dX11_init_82 : decode cX11_init 82 = .ok (.dup, 1) := by decide +kernel
theorem dX11_init_83 : decode cX11_init 83 = .ok (.aload_n 0, 1) := by decide +kernel
theorem dX11_init_84 : decode cX11_init 84 = .ok (.getfield 10, 3) := by decide +kernel
theorem dX11_init_87 : decode cX11_init 87 = .ok (.aload_n 0, 1) := by decide +kernel
theorem dX11_init_88 : decode cX11_init 88 = .ok (.getfield 19, 3) := by decide +kernel
theorem dX11_init_91 : decode cX11_init 91 = .ok (.invokespecial 51, 3) := by decide +kernel
theorem dX11_init_94 : decode cX11_init 94 = .ok (.putfield 54, 3) := by decide +kernel
theorem dX11_init_97 : decode cX11_init 97 = .ok (.aload_n 0, 1) := by decide +kernel
theorem dX11_init_98 : decode cX11_init 98 = .ok (.new 58, 3) := by decide +kernel
theorem dX11_init_101 : decode cX11_init 101 = .ok (.dup, 1) := by decide +kernel
theorem dX11_init_102 : decode cX11_init 102 = .ok (.aload_n 0, 1) := by decide +kernel
theorem dX11_init_103 : decode cX11_init 103 = .ok (.getfield 10, 3) := by decide +kernel
theorem dX11_init_106 : decode cX11_init 106 = .ok (.aload_n 0, 1) := by decide +kernel
theorem dX11_init_107 : decode cX11_init 107 = .ok (.getfield 19, 3) := by decide +kernel
theorem dX11_init_110 : decode cX11_init 110 = .ok (.aload_n 0, 1) := by decide +kernel
theorem dX11_init_111 : decode cX11_init 111 = .ok (.getfield 46, 3) := by decide +kernel
theorem dX11_init_114 : decode cX11_init 114 = .ok (.invokespecial 60, 3) := by decide +kernel
theorem dX11_init_117 : decode cX11_init 117 = .ok (.putfield 63, 3) := by decide +kernel
theorem dX11_init_120 : decode cX11_init 120 = .ok (.aload_n 0, 1) := by decide +kernel
theorem dX11_init_121 : decode cX11_init 121 = .ok (.new 67, 3) := by decide +kernel
theorem dX11_init_124 : decode cX11_init 124 = .ok (.dup, 1) := by decide +kernel
theorem dX11_init_125 : decode cX11_init 125 = .ok (.aload_n 0, 1) := by decide +kernel
theorem dX11_init_126 : decode cX11_init 126 = .ok (.getfield 19, 3) := by decide +kernel
theorem dX11_init_129 : decode cX11_init 129 = .ok (.aload_n 0, 1) := by decide +kernel
theorem dX11_init_130 : decode cX11_init 130 = .ok (.getfield 28, 3) := by decide +kernel
theorem dX11_init_133 : decode cX11_init 133 = .ok (.aload_n 0, 1) := by decide +kernel
theorem dX11_init_134 : decode cX11_init 134 = .ok (.getfield 35, 3) := by decide +kernel
theorem dX11_init_137 : decode cX11_init 137 = .ok (.aload_n 0, 1) := by decide +kernel
theorem dX11_init_138 : decode cX11_init 138 = .ok (.getfield 46, 3) := by decide +kernel
theorem dX11_init_141 : decode cX11_init 141 = .ok (.invokespecial 69, 3) := by decide +kernel
theorem dX11_init_144 : decode cX11_init 144 = .ok (.putfield 72, 3) := by decide +kernel
theorem dX11_init_147 : decode cX11_init 147 = .ok (.aload_n 0, 1) := by decide +kernel
theorem dX11_init_148 : decode cX11_init 148 = .ok (.new 76, 3) := by decide +kernel
theorem dX11_init_151 : decode cX11_init 151 = .ok (.dup, 1) := by decide +kernel
theorem dX11_init_152 : decode cX11_init 152 = .ok (.aload_n 0, 1) := by decide +kernel
theorem dX11_init_153 : decode cX11_init 153 = .ok (.getfield 42, 3) := by decide +kernel
theorem dX11_init_156 : decode cX11_init 156 = .ok (.invokespecial 78, 3) := by decide +kernel
theorem dX11_init_159 : decode cX11_init 159 = .ok (.putfield 81, 3) := by decide +kernel
theorem dX11_init_162 : decode cX11_init 162 = .ok (.aload_n 0, 1) := by decide +kernel
theorem dX11_init_163 : decode cX11_init 163 = .ok (.iconst (-1), 1) := by decide +kernel
theorem dX11_init_164 : decode cX11_init 164 = .ok (.putfield 85, 3) := by decide +kernel
theorem dX11_init_167 : decode cX11_init 167 = .ok (.return_, 1) := by decide +kernel
theorem dX11_clear_0 : decode cX11_clear 0 = .ok (.aload_n 0, 1) := by decide +kernel
theorem dX11_clear_1 : decode cX11_clear 1 = .ok (.getfield 19, 3) := by decide +kernel
theorem dX11_clear_4 : decode cX11_clear 4 = .ok (.invokevirtual 89, 3) := by decide +kernel
theorem dX11_clear_7 : decode cX11_clear 7 = .ok (.istore_n 1, 1) := by decide +kernel
theorem dX11_clear_8 : decode cX11_clear 8 = .ok (.aload_n 0, 1) := by decide +kernel
theorem dX11_clear_9 : decode cX11_clear 9 = .ok (.getfield 19, 3) := by decide +kernel
theorem dX11_clear_12 : decode cX11_clear 12 = .ok (.iconst 0, 1) := by decide +kernel
theorem dX11_clear_13 : decode cX11_clear 13 = .ok (.invokevirtual 93, 3) := by decide +kernel
theorem dX11_clear_16 : decode cX11_clear 16 = .ok (.aload_n 0, 1) := by decide +kernel
theorem dX11_clear_17 : decode cX11_clear 17 = .ok (.iconst 0, 1) := by decide +kernel
theorem dX11_clear_18 : decode cX11_clear 18 = .ok (.putfield 97, 3) := by decide +kernel
theorem dX11_clear_21 : decode cX11_clear 21 = .ok (.aload_n 0, 1) := by decide +kernel
theorem dX11_clear_22 : decode cX11_clear 22 = .ok (.getfield 81, 3) := by decide +kernel
theorem dX11_clear_25 : decode cX11_clear 25 = .ok (.invokevirtual 101, 3) := by decide +kernel
theorem dX11_clear_28 : decode cX11_clear 28 = .ok (.iload_n 1, 1) := by decide +kernel
theorem dX11_clear_29 : decode cX11_clear 29 = .ok (.ireturn, 1) := by decide +kernel
theorem dX11_feed_0 : decode cX11_feed 0 = .ok (.aload_n 0, 1) := by decide +kernel
theorem dX11_feed_1 : decode cX11_feed 1 = .ok (.getfield 10, 3) := by decide +kernel
theorem dX11_feed_4 : decode cX11_feed 4 = .ok (.iload_n 1, 1) := by decide +kernel
theorem dX11_feed_5 : decode cX11_feed 5 = .ok (.invokevirtual 104, 3) := by decide +kernel
theorem dX11_feed_8 : decode cX11_feed 8 = .ok (.ireturn, 1) := by decide +kernel
theorem dX11_type_0 : decode cX11_type 0 = .ok (.aload_n 0, 1) := by decide +kernel
theorem dX11_type_1 : decode cX11_type 1 = .ok (.getfield 19, 3) := by decide +kernel
theorem dX11_type_4 : decode cX11_type 4 = .ok (.invokevirtual 89, 3) := by decide +kernel
theorem dX11_type_7 : decode cX11_type 7 = .ok (.istore_n 1, 1) := by decide +kernel
theorem dX11_type_8 : decode cX11_type 8 = .ok (.aload_n 0, 1) := by decide +kernel
theorem dX11_type_9 : decode cX11_type 9 = .ok (.getfield 10, 3) := by decide +kernel
theorem dX11_type_12 : decode cX11_type 12 = .ok (.invokevirtual 108, 3) := by decide +kernel
theorem dX11_type_15 : decode cX11_type 15 = .ok (.aload_n 0, 1) := by decide +kernel
theorem dX11_type_16 : decode cX11_type 16 = .ok (.getfield 54, 3) := by decide +kernel
theorem dX11_type_19 : decode cX11_type 19 = .ok (.invokevirtual 111, 3) := by decide +kernel
theorem dX11_type_22 : decode cX11_type 22 = .ok (.istore_n 2, 1) := by decide +kernel
theorem dX11_type_23 : decode cX11_type 23 = .ok (.aload_n 0, 1) := by decide +kernel
theorem dX11_type_24 : decode cX11_type 24 = .ok (.getfield 19, 3) := by decide +kernel
theorem dX11_type_27 : decode cX11_type 27 = .ok (.invokevirtual 89, 3) := by decide +kernel
theorem dX11_type_30 : decode cX11_type 30 = .ok (.sipush 200, 3) := by decide +kernel
theorem dX11_type_33 : decode cX11_type 33 = .ok (.if_icmp .gt 7, 3) := by decide +kernel
theorem dX11_type_36 : decode cX11_type 36 = .ok (.iconst 1, 1) := by decide +kernel
theorem dX11_type_37 : decode cX11_type 37 = .ok (.goto 4, 3) := by decide +kernel
theorem dX11_type_40 : decode cX11_type 40 = .ok (.iconst 0, 1) := by decide +kernel
theorem dX11_type_41 : decode cX11_type 41 = .ok (.istore_n 3, 1) := by decide +kernel
theorem dX11_type_42 : decode cX11_type 42 = .ok (.iload_n 2, 1) := by decide +kernel
theorem dX11_type_43 : decode cX11_type 43 = .ok (.ifCond .eq 7, 3) := by decide +kernel
theorem dX11_type_46 : decode cX11_type 46 = .ok (.iload_n 3, 1) := by decide +kernel
theorem dX11_type_47 : decode cX11_type 47 = .ok (.ifCond .ne 11, 3) := by decide +kernel
theorem dX11_type_50 : decode cX11_type 50 = .ok (.aload_n 0, 1) := by decide +kernel
theorem dX11_type_51 : decode cX11_type 51 = .ok (.getfield 19, 3) := by decide +kernel
theorem dX11_type_54 : decode cX11_type 54 = .ok (.iload_n 1, 1) := by decide +kernel
theorem dX11_type_55 : decode cX11_type 55 = .ok (.invokevirtual 93, 3) := by decide +kernel
theorem dX11_type_58 : decode cX11_type 58 = .ok (.aload_n 0, 1) := by decide +kernel
theorem dX11_type_59 : decode cX11_type 59 = .ok (.aload_n 0, 1) := by decide +kernel
theorem dX11_type_60 : decode cX11_type 60 = .ok (.getfield 10, 3) := by decide +kernel
theorem dX11_type_63 : decode cX11_type 63 = .ok (.invokevirtual 115, 3) := by decide +kernel
theorem dX11_type_66 : decode cX11_type 66 = .ok (.putfield 85, 3) := by decide +kernel
theorem dX11_type_69 : decode cX11_type 69 = .ok (.aload_n 0, 1) := by decide +kernel
theorem dX11_type_70 : decode cX11_type 70 = .ok (.getfield 10, 3) := by decide +kernel
theorem dX11_type_73 : decode cX11_type 73 = .ok (.invokevirtual 117, 3) := by decide +kernel
theorem dX11_type_76 : decode cX11_type 76 = .ok (.istore 4, 2) := by decide +kernel
theorem dX11_type_78 : decode cX11_type 78 = .ok (.aload_n 0, 1) := by decide +kernel
theorem dX11_type_79 : decode cX11_type 79 = .ok (.getfield 10, 3) := by decide +kernel
theorem dX11_type_82 : decode cX11_type 82 = .ok (.invokevirtual 120, 3) := by decide +kernel
theorem dX11_type_85 : decode cX11_type 85 = .ok (.iload_n 2, 1) := by decide +kernel
theorem dX11_type_86 : decode cX11_type 86 = .ok (.ifCond .ne 6, 3) := by decide +kernel
theorem dX11_type_89 : decode cX11_type 89 = .ok (.iload 4, 2) := by decide +kernel
theorem dX11_type_91 : decode cX11_type 91 = .ok (.ireturn, 1) := by decide +kernel
theorem dX11_type_92 : decode cX11_type 92 = .ok (.iload_n 3, 1) := by decide +kernel
theorem dX11_type_93 : decode cX11_type 93 = .ok (.ifCond .eq 7, 3) := by decide +kernel
theorem dX11_type_96 : decode cX11_type 96 = .ok (.iload_n 1, 1) := by decide +kernel
theorem dX11_type_97 : decode cX11_type 97 = .ok (.goto 5, 3) := by decide +kernel
theorem dX11_type_100 : decode cX11_type 100 = .ok (.bipush (-3), 2) := by decide +kernel
theorem dX11_type_102 : decode cX11_type 102 = .ok (.ireturn, 1) := by decide +kernel
theorem dX11_term_0 : decode cX11_term 0 = .ok (.aload_n 0, 1) := by decide +kernel
theorem dX11_term_1 : decode cX11_term 1 = .ok (.getfield 19, 3) := by decide +kernel
theorem dX11_term_4 : decode cX11_term 4 = .ok (.invokevirtual 89, 3) := by decide +kernel
theorem dX11_term_7 : decode cX11_term 7 = .ok (.istore_n 1, 1) := by decide +kernel
theorem dX11_term_8 : decode cX11_term 8 = .ok (.aload_n 0, 1) := by decide +kernel
theorem dX11_term_9 : decode cX11_term 9 = .ok (.getfield 10, 3) := by decide +kernel
theorem dX11_term_12 : decode cX11_term 12 = .ok (.invokevirtual 108, 3) := by decide +kernel
theorem dX11_term_15 : decode cX11_term 15 = .ok (.aload_n 0, 1) := by decide +kernel
theorem dX11_term_16 : decode cX11_term 16 = .ok (.getfield 63, 3) := by decide +kernel
theorem dX11_term_19 : decode cX11_term 19 = .ok (.aload_n 0, 1) := by decide +kernel
theorem dX11_term_20 : decode cX11_term 20 = .ok (.getfield 46, 3) := by decide +kernel
theorem dX11_term_23 : decode cX11_term 23 = .ok (.invokevirtual 123, 3) := by decide +kernel
theorem dX11_term_26 : decode cX11_term 26 = .ok (.istore_n 2, 1) := by decide +kernel
theorem dX11_term_27 : decode cX11_term 27 = .ok (.aload_n 0, 1) := by decide +kernel
theorem dX11_term_28 : decode cX11_term 28 = .ok (.aload_n 0, 1) := by decide +kernel
theorem dX11_term_29 : decode cX11_term 29 = .ok (.getfield 10, 3) := by decide +kernel
theorem dX11_term_32 : decode cX11_term 32 = .ok (.invokevirtual 115, 3) := by decide +kernel
theorem dX11_term_35 : decode cX11_term 35 = .ok (.putfield 85, 3) := by decide +kernel
theorem dX11_term_38 : decode cX11_term 38 = .ok (.aload_n 0, 1) := by decide +kernel
theorem dX11_term_39 : decode cX11_term 39 = .ok (.getfield 10, 3) := by decide +kernel
theorem dX11_term_42 : decode cX11_term 42 = .ok (.invokevirtual 117, 3) := by decide +kernel
theorem dX11_term_45 : decode cX11_term 45 = .ok (.istore_n 3, 1) := by decide +kernel
theorem dX11_term_46 : decode cX11_term 46 = .ok (.aload_n 0, 1) := by decide +kernel
theorem dX11_term_47 : decode cX11_term 47 = .ok (.getfield 10, 3) := by decide +kernel
theorem dX11_term_50 : decode cX11_term 50 = .ok (.invokevirtual 120, 3) := by decide +kernel
theorem dX11_term_53 : decode cX11_term 53 = .ok (.iload_n 2, 1) := by decide +kernel
theorem dX11_term_54 : decode cX11_term 54 = .ok (.ifCond .eq 36, 3) := by decide +kernel
theorem dX11_term_57 : decode cX11_term 57 = .ok (.aload_n 0, 1) := by decide +kernel
theorem dX11_term_58 : decode cX11_term 58 = .ok (.getfield 72, 3) := by decide +kernel
theorem dX11_term_61 : decode cX11_term 61 = .ok (.aload_n 0, 1) := by decide +kernel
theorem dX11_term_62 : decode cX11_term 62 = .ok (.getfield 46, 3) := by decide +kernel
theorem dX11_term_65 : decode cX11_term 65 = .ok (.invokevirtual 126, 3) := by decide +kernel
theorem dX11_term_68 : decode cX11_term 68 = .ok (.istore_n 3, 1) := by decide +kernel
theorem dX11_term_69 : decode cX11_term 69 = .ok (.aload_n 0, 1) := by decide +kernel
theorem dX11_term_70 : decode cX11_term 70 = .ok (.iload_n 3, 1) := by decide +kernel
theorem dX11_term_71 : decode cX11_term 71 = .ok (.bipush (-15), 2) := by decide +kernel
theorem dX11_term_73 : decode cX11_term 73 = .ok (.if_icmp .ne 13, 3) := by decide +kernel
theorem dX11_term_76 : decode cX11_term 76 = .ok (.aload_n 0, 1) := by decide +kernel
theorem dX11_term_77 : decode cX11_term 77 = .ok (.getfield 72, 3) := by decide +kernel
theorem dX11_term_80 : decode cX11_term 80 = .ok (.invokevirtual 130, 3) := by decide +kernel
theorem dX11_term_83 : decode cX11_term 83 = .ok (.goto 4, 3) := by decide +kernel
theorem dX11_term_86 : decode cX11_term 86 = .ok (.iconst (-1), 1) := by decide +kernel
theorem dX11_term_87 : decode cX11_term 87 = .ok (.putfield 85, 3) := by decide +kernel
theorem dX11_term_90 : decode cX11_term 90 = .ok (.iload_n 2, 1) := by decide +kernel
theorem dX11_term_91 : decode cX11_term 91 = .ok (.ifCond .eq 7, 3) := by decide +kernel
theorem dX11_term_94 : decode cX11_term 94 = .ok (.iload_n 3, 1) := by decide +kernel
theorem dX11_term_95 : decode cX11_term 95 = .ok (.ifCond .ge 13, 3) := by decide +kernel
theorem dX11_term_98 : decode cX11_term 98 = .ok (.aload_n 0, 1) := by decide +kernel
theorem dX11_term_99 : decode cX11_term 99 = .ok (.getfield 19, 3) := by decide +kernel
theorem dX11_term_102 : decode cX11_term 102 = .ok (.iload_n 1, 1) := by decide +kernel
theorem dX11_term_103 : decode cX11_term 103 = .ok (.invokevirtual 93, 3) := by decide +kernel
theorem dX11_term_106 : decode cX11_term 106 = .ok (.iload_n 3, 1) := by decide +kernel
theorem dX11_term_107 : decode cX11_term 107 = .ok (.ireturn, 1) := by decide +kernel
theorem dX11_term_108 : decode cX11_term 108 = .ok (.aload_n 0, 1) := by decide +kernel
theorem dX11_term_109 : decode cX11_term 109 = .ok (.getfield 42, 3) := by decide +kernel
theorem dX11_term_112 : decode cX11_term 112 = .ok (.astore 4, 2) := by decide +kernel
theorem dX11_term_114 : decode cX11_term 114 = .ok (.aload_n 0, 1) := by decide +kernel
theorem dX11_term_115 : decode cX11_term 115 = .ok (.aload_n 0, 1) := by decide +kernel
theorem dX11_term_116 : decode cX11_term 116 = .ok (.getfield 46, 3) := by decide +kernel
theorem dX11_term_119 : decode cX11_term 119 = .ok (.putfield 42, 3) := by decide +kernel
theorem dX11_term_122 : decode cX11_term 122 = .ok (.aload_n 0, 1) := by decide +kernel
theorem dX11_term_123 : decode cX11_term 123 = .ok (.aload 4, 2) := by decide +kernel
theorem dX11_term_125 : decode cX11_term 125 = .ok (.putfield 46, 3) := by decide +kernel
theorem dX11_term_128 : decode cX11_term 128 = .ok (.aload_n 0, 1) := by decide +kernel
theorem dX11_term_129 : decode cX11_term 129 = .ok (.iconst 1, 1) := by decide +kernel
theorem dX11_term_130 : decode cX11_term 130 = .ok (.putfield 97, 3) := by decide +kernel
theorem dX11_term_133 : decode cX11_term 133 = .ok (.iload_n 3, 1) := by decide +kernel
theorem dX11_term_134 : decode cX11_term 134 = .ok (.ireturn, 1) := by decide +kernel
theorem dX11_place_0 : decode cX11_place 0 = .ok (.aload_n 0, 1) := by decide +kernel
theorem dX11_place_1 : decode cX11_place 1 = .ok (.getfield 85, 3) := by decide +kernel
theorem dX11_place_4 : decode cX11_place 4 = .ok (.ireturn, 1) := by decide +kernel
theorem dX11_node_0 : decode cX11_node 0 = .ok (.iload_n 2, 1) := by decide +kernel
theorem dX11_node_1 : decode cX11_node 1 = .ok (.ifCond .ge 6, 3) := by decide +kernel
theorem dX11_node_4 : decode cX11_node 4 = .ok (.bipush (-2), 2) := by decide +kernel
theorem dX11_node_6 : decode cX11_node 6 = .ok (.ireturn, 1) := by decide +kernel
theorem dX11_node_7 : decode cX11_node 7 = .ok (.aload_n 0, 1) := by decide +kernel
theorem dX11_node_8 : decode cX11_node 8 = .ok (.getfield 19, 3) := by decide +kernel
theorem dX11_node_11 : decode cX11_node 11 = .ok (.iload_n 1, 1) := by decide +kernel
theorem dX11_node_12 : decode cX11_node 12 = .ok (.invokevirtual 133, 3) := by decide +kernel
theorem dX11_node_15 : decode cX11_node 15 = .ok (.ifCond .ne 5, 3) := by decide +kernel
theorem dX11_node_18 : decode cX11_node 18 = .ok (.iconst (-1), 1) := by decide +kernel
theorem dX11_node_19 : decode cX11_node 19 = .ok (.ireturn, 1) := by decide +kernel
theorem dX11_node_20 : decode cX11_node 20 = .ok (.iload_n 2, 1) := by decide +kernel
theorem dX11_node_21 : decode cX11_node 21 = .ok (.ifCond .ne 12, 3) := by decide +kernel
theorem dX11_node_24 : decode cX11_node 24 = .ok (.aload_n 0, 1) := by decide +kernel
theorem dX11_node_25 : decode cX11_node 25 = .ok (.getfield 19, 3) := by decide +kernel
theorem dX11_node_28 : decode cX11_node 28 = .ok (.iload_n 1, 1) := by decide +kernel
theorem dX11_node_29 : decode cX11_node 29 = .ok (.invokevirtual 137, 3) := by decide +kernel
theorem dX11_node_32 : decode cX11_node 32 = .ok (.ireturn, 1) := by decide +kernel
theorem dX11_node_33 : decode cX11_node 33 = .ok (.iload_n 2, 1) := by decide +kernel
theorem dX11_node_34 : decode cX11_node 34 = .ok (.iconst 1, 1) := by decide +kernel
theorem dX11_node_35 : decode cX11_node 35 = .ok (.if_icmp .ne 14, 3) := by decide +kernel
theorem dX11_node_38 : decode cX11_node 38 = .ok (.aload_n 0, 1) := by decide +kernel
theorem dX11_node_39 : decode cX11_node 39 = .ok (.getfield 19, 3) := by decide +kernel
theorem dX11_node_42 : decode cX11_node 42 = .ok (.iload_n 1, 1) := by decide +kernel
theorem dX11_node_43 : decode cX11_node 43 = .ok (.invokevirtual 140, 3) := by decide +kernel
theorem dX11_node_46 : decode cX11_node 46 = .ok (.goto 14, 3) := by decide +kernel
theorem dX11_node_49 : decode cX11_node 49 = .ok (.aload_n 0, 1) := by decide +kernel
theorem dX11_node_50 : decode cX11_node 50 = .ok (.getfield 19, 3) := by decide +kernel
theorem dX11_node_53 : decode cX11_node 53 = .ok (.iload_n 1, 1) := by decide +kernel
theorem dX11_node_54 : decode cX11_node 54 = .ok (.iload_n 2, 1) := by decide +kernel
theorem dX11_node_55 : decode cX11_node 55 = .ok (.iconst 2, 1) := by decide +kernel
theorem dX11_node_56 : decode cX11_node 56 = .ok (.isub, 1) := by decide +kernel
theorem dX11_node_57 : decode cX11_node 57 = .ok (.invokevirtual 143, 3) := by decide +kernel
theorem dX11_node_60 : decode cX11_node 60 = .ok (.ireturn, 1) := by decide +kernel
theorem dX11_below_0 : decode cX11_below 0 = .ok (.aload_n 0, 1) := by decide +kernel
theorem dX11_below_1 : decode cX11_below 1 = .ok (.getfield 19, 3) := by decide +kernel
theorem dX11_below_4 : decode cX11_below 4 = .ok (.iload_n 1, 1) := by decide +kernel
theorem dX11_below_5 : decode cX11_below 5 = .ok (.invokevirtual 133, 3) := by decide +kernel
theorem dX11_below_8 : decode cX11_below 8 = .ok (.ifCond .eq 14, 3) := by decide +kernel
theorem dX11_below_11 : decode cX11_below 11 = .ok (.aload_n 0, 1) := by decide +kernel
theorem dX11_below_12 : decode cX11_below 12 = .ok (.getfield 19, 3) := by decide +kernel
theorem dX11_below_15 : decode cX11_below 15 = .ok (.iload_n 2, 1) := by decide +kernel
theorem dX11_below_16 : decode cX11_below 16 = .ok (.invokevirtual 133, 3) := by decide +kernel
theorem dX11_below_19 : decode cX11_below 19 = .ok (.ifCond .ne 6, 3) := by decide +kernel
theorem dX11_below_22 : decode cX11_below 22 = .ok (.bipush (-2), 2) := by decide +kernel
theorem dX11_below_24 : decode cX11_below 24 = .ok (.ireturn, 1) := by decide +kernel
theorem dX11_below_25 : decode cX11_below 25 = .ok (.aload_n 0, 1) := by decide +kernel
theorem dX11_below_26 : decode cX11_below 26 = .ok (.getfield 28, 3) := by decide +kernel
theorem dX11_below_29 : decode cX11_below 29 = .ok (.iload_n 1, 1) := by decide +kernel
theorem dX11_below_30 : decode cX11_below 30 = .ok (.iload_n 2, 1) := by decide +kernel
theorem dX11_below_31 : decode cX11_below 31 = .ok (.invokevirtual 147, 3) := by decide +kernel
theorem dX11_below_34 : decode cX11_below 34 = .ok (.iconst (-1), 1) := by decide +kernel
theorem dX11_below_35 : decode cX11_below 35 = .ok (.if_icmp .ne 7, 3) := by decide +kernel
theorem dX11_below_38 : decode cX11_below 38 = .ok (.iconst 1, 1) := by decide +kernel
theorem dX11_below_39 : decode cX11_below 39 = .ok (.goto 4, 3) := by decide +kernel
theorem dX11_below_42 : decode cX11_below 42 = .ok (.iconst 0, 1) := by decide +kernel
theorem dX11_below_43 : decode cX11_below 43 = .ok (.ireturn, 1) := by decide +kernel
theorem dX11_depth_0 : decode cX11_depth 0 = .ok (.aload_n 0, 1) := by decide +kernel
theorem dX11_depth_1 : decode cX11_depth 1 = .ok (.getfield 19, 3) := by decide +kernel
theorem dX11_depth_4 : decode cX11_depth 4 = .ok (.iload_n 1, 1) := by decide +kernel
theorem dX11_depth_5 : decode cX11_depth 5 = .ok (.invokevirtual 133, 3) := by decide +kernel
theorem dX11_depth_8 : decode cX11_depth 8 = .ok (.ifCond .eq 14, 3) := by decide +kernel
theorem dX11_depth_11 : decode cX11_depth 11 = .ok (.aload_n 0, 1) := by decide +kernel
theorem dX11_depth_12 : decode cX11_depth 12 = .ok (.getfield 19, 3) := by decide +kernel
theorem dX11_depth_15 : decode cX11_depth 15 = .ok (.iload_n 2, 1) := by decide +kernel
theorem dX11_depth_16 : decode cX11_depth 16 = .ok (.invokevirtual 133, 3) := by decide +kernel
theorem dX11_depth_19 : decode cX11_depth 19 = .ok (.ifCond .ne 6, 3) := by decide +kernel
theorem dX11_depth_22 : decode cX11_depth 22 = .ok (.bipush (-2), 2) := by decide +kernel
theorem dX11_depth_24 : decode cX11_depth 24 = .ok (.ireturn, 1) := by decide +kernel
theorem dX11_depth_25 : decode cX11_depth 25 = .ok (.aload_n 0, 1) := by decide +kernel
theorem dX11_depth_26 : decode cX11_depth 26 = .ok (.getfield 28, 3) := by decide +kernel
theorem dX11_depth_29 : decode cX11_depth 29 = .ok (.iload_n 1, 1) := by decide +kernel
theorem dX11_depth_30 : decode cX11_depth 30 = .ok (.iload_n 2, 1) := by decide +kernel
theorem dX11_depth_31 : decode cX11_depth 31 = .ok (.invokevirtual 150, 3) := by decide +kernel
theorem dX11_depth_34 : decode cX11_depth 34 = .ok (.ireturn, 1) := by decide +kernel
theorem dX11_way_0 : decode cX11_way 0 = .ok (.aload_n 0, 1) := by decide +kernel
theorem dX11_way_1 : decode cX11_way 1 = .ok (.getfield 19, 3) := by decide +kernel
theorem dX11_way_4 : decode cX11_way 4 = .ok (.iload_n 1, 1) := by decide +kernel
theorem dX11_way_5 : decode cX11_way 5 = .ok (.invokevirtual 133, 3) := by decide +kernel
theorem dX11_way_8 : decode cX11_way 8 = .ok (.ifCond .eq 14, 3) := by decide +kernel
theorem dX11_way_11 : decode cX11_way 11 = .ok (.aload_n 0, 1) := by decide +kernel
theorem dX11_way_12 : decode cX11_way 12 = .ok (.getfield 19, 3) := by decide +kernel
theorem dX11_way_15 : decode cX11_way 15 = .ok (.iload_n 2, 1) := by decide +kernel
theorem dX11_way_16 : decode cX11_way 16 = .ok (.invokevirtual 133, 3) := by decide +kernel
theorem dX11_way_19 : decode cX11_way 19 = .ok (.ifCond .ne 6, 3) := by decide +kernel
theorem dX11_way_22 : decode cX11_way 22 = .ok (.bipush (-2), 2) := by decide +kernel
theorem dX11_way_24 : decode cX11_way 24 = .ok (.ireturn, 1) := by decide +kernel
theorem dX11_way_25 : decode cX11_way 25 = .ok (.aload_n 0, 1) := by decide +kernel
theorem dX11_way_26 : decode cX11_way 26 = .ok (.getfield 28, 3) := by decide +kernel
theorem dX11_way_29 : decode cX11_way 29 = .ok (.iload_n 1, 1) := by decide +kernel
theorem dX11_way_30 : decode cX11_way 30 = .ok (.iload_n 2, 1) := by decide +kernel
theorem dX11_way_31 : decode cX11_way 31 = .ok (.iload_n 3, 1) := by decide +kernel
theorem dX11_way_32 : decode cX11_way 32 = .ok (.invokevirtual 153, 3) := by decide +kernel
theorem dX11_way_35 : decode cX11_way 35 = .ok (.ireturn, 1) := by decide +kernel
theorem dX11_unite_0 : decode cX11_unite 0 = .ok (.aload_n 0, 1) := by decide +kernel
theorem dX11_unite_1 : decode cX11_unite 1 = .ok (.getfield 19, 3) := by decide +kernel
theorem dX11_unite_4 : decode cX11_unite 4 = .ok (.iload_n 1, 1) := by decide +kernel
theorem dX11_unite_5 : decode cX11_unite 5 = .ok (.invokevirtual 133, 3) := by decide +kernel
theorem dX11_unite_8 : decode cX11_unite 8 = .ok (.ifCond .eq 14, 3) := by decide +kernel
theorem dX11_unite_11 : decode cX11_unite 11 = .ok (.aload_n 0, 1) := by decide +kernel
theorem dX11_unite_12 : decode cX11_unite 12 = .ok (.getfield 19, 3) := by decide +kernel
theorem dX11_unite_15 : decode cX11_unite 15 = .ok (.iload_n 2, 1) := by decide +kernel
theorem dX11_unite_16 : decode cX11_unite 16 = .ok (.invokevirtual 133, 3) := by decide +kernel
theorem dX11_unite_19 : decode cX11_unite 19 = .ok (.ifCond .ne 6, 3) := by decide +kernel
theorem dX11_unite_22 : decode cX11_unite 22 = .ok (.bipush (-2), 2) := by decide +kernel
theorem dX11_unite_24 : decode cX11_unite 24 = .ok (.ireturn, 1) := by decide +kernel
theorem dX11_unite_25 : decode cX11_unite 25 = .ok (.aload_n 0, 1) := by decide +kernel
theorem dX11_unite_26 : decode cX11_unite 26 = .ok (.getfield 35, 3) := by decide +kernel
theorem dX11_unite_29 : decode cX11_unite 29 = .ok (.iconst 0, 1) := by decide +kernel
theorem dX11_unite_30 : decode cX11_unite 30 = .ok (.iload_n 1, 1) := by decide +kernel
theorem dX11_unite_31 : decode cX11_unite 31 = .ok (.iload_n 2, 1) := by decide +kernel
theorem dX11_unite_32 : decode cX11_unite 32 = .ok (.invokevirtual 157, 3) := by decide +kernel
theorem dX11_unite_35 : decode cX11_unite 35 = .ok (.ireturn, 1) := by decide +kernel
theorem dX11_meet_0 : decode cX11_meet 0 = .ok (.aload_n 0, 1) := by decide +kernel
theorem dX11_meet_1 : decode cX11_meet 1 = .ok (.getfield 19, 3) := by decide +kernel
theorem dX11_meet_4 : decode cX11_meet 4 = .ok (.iload_n 1, 1) := by decide +kernel
theorem dX11_meet_5 : decode cX11_meet 5 = .ok (.invokevirtual 133, 3) := by decide +kernel
theorem dX11_meet_8 : decode cX11_meet 8 = .ok (.ifCond .eq 14, 3) := by decide +kernel
theorem dX11_meet_11 : decode cX11_meet 11 = .ok (.aload_n 0, 1) := by decide +kernel
theorem dX11_meet_12 : decode cX11_meet 12 = .ok (.getfield 19, 3) := by decide +kernel
theorem dX11_meet_15 : decode cX11_meet 15 = .ok (.iload_n 2, 1) := by decide +kernel
theorem dX11_meet_16 : decode cX11_meet 16 = .ok (.invokevirtual 133, 3) := by decide +kernel
theorem dX11_meet_19 : decode cX11_meet 19 = .ok (.ifCond .ne 6, 3) := by decide +kernel
theorem dX11_meet_22 : decode cX11_meet 22 = .ok (.bipush (-2), 2) := by decide +kernel
theorem dX11_meet_24 : decode cX11_meet 24 = .ok (.ireturn, 1) := by decide +kernel
theorem dX11_meet_25 : decode cX11_meet 25 = .ok (.aload_n 0, 1) := by decide +kernel
theorem dX11_meet_26 : decode cX11_meet 26 = .ok (.getfield 35, 3) := by decide +kernel
theorem dX11_meet_29 : decode cX11_meet 29 = .ok (.iconst 1, 1) := by decide +kernel
theorem dX11_meet_30 : decode cX11_meet 30 = .ok (.iload_n 1, 1) := by decide +kernel
theorem dX11_meet_31 : decode cX11_meet 31 = .ok (.iload_n 2, 1) := by decide +kernel
theorem dX11_meet_32 : decode cX11_meet 32 = .ok (.invokevirtual 157, 3) := by decide +kernel
theorem dX11_meet_35 : decode cX11_meet 35 = .ok (.ireturn, 1) := by decide +kernel
theorem dX11_run_0 : decode cX11_run 0 = .ok (.aload_n 0, 1) := by decide +kernel
theorem dX11_run_1 : decode cX11_run 1 = .ok (.getfield 97, 3) := by decide +kernel
theorem dX11_run_4 : decode cX11_run 4 = .ok (.ifCond .eq 14, 3) := by decide +kernel
theorem dX11_run_7 : decode cX11_run 7 = .ok (.iload_n 1, 1) := by decide +kernel
theorem dX11_run_8 : decode cX11_run 8 = .ok (.ifCond .lt 10, 3) := by decide +kernel
theorem dX11_run_11 : decode cX11_run 11 = .ok (.iload_n 1, 1) := by decide +kernel
theorem dX11_run_12 : decode cX11_run 12 = .ok (.sipush 20000, 3) := by decide +kernel
theorem dX11_run_15 : decode cX11_run 15 = .ok (.if_icmp .le 6, 3) := by decide +kernel
theorem dX11_run_18 : decode cX11_run 18 = .ok (.bipush (-2), 2) := by decide +kernel
theorem dX11_run_20 : decode cX11_run 20 = .ok (.ireturn, 1) := by decide +kernel
theorem dX11_run_21 : decode cX11_run 21 = .ok (.aload_n 0, 1) := by decide +kernel
theorem dX11_run_22 : decode cX11_run 22 = .ok (.getfield 81, 3) := by decide +kernel
theorem dX11_run_25 : decode cX11_run 25 = .ok (.aload_n 0, 1) := by decide +kernel
theorem dX11_run_26 : decode cX11_run 26 = .ok (.getfield 42, 3) := by decide +kernel
theorem dX11_run_29 : decode cX11_run 29 = .ok (.iload_n 1, 1) := by decide +kernel
theorem dX11_run_30 : decode cX11_run 30 = .ok (.invokevirtual 160, 3) := by decide +kernel
theorem dX11_run_33 : decode cX11_run 33 = .ok (.ireturn, 1) := by decide +kernel
theorem dX11_value_0 : decode cX11_value 0 = .ok (.iload_n 2, 1) := by decide +kernel
theorem dX11_value_1 : decode cX11_value 1 = .ok (.ifCond .ge 6, 3) := by decide +kernel
theorem dX11_value_4 : decode cX11_value 4 = .ok (.bipush (-2), 2) := by decide +kernel
theorem dX11_value_6 : decode cX11_value 6 = .ok (.ireturn, 1) := by decide +kernel
theorem dX11_value_7 : decode cX11_value 7 = .ok (.aload_n 0, 1) := by decide +kernel
theorem dX11_value_8 : decode cX11_value 8 = .ok (.getfield 81, 3) := by decide +kernel
theorem dX11_value_11 : decode cX11_value 11 = .ok (.invokevirtual 164, 3) := by decide +kernel
theorem dX11_value_14 : decode cX11_value 14 = .ok (.astore_n 3, 1) := by decide +kernel
theorem dX11_value_15 : decode cX11_value 15 = .ok (.aload_n 3, 1) := by decide +kernel
theorem dX11_value_16 : decode cX11_value 16 = .ok (.iload_n 1, 1) := by decide +kernel
theorem dX11_value_17 : decode cX11_value 17 = .ok (.invokevirtual 168, 3) := by decide +kernel
theorem dX11_value_20 : decode cX11_value 20 = .ok (.ifCond .ne 5, 3) := by decide +kernel
theorem dX11_value_23 : decode cX11_value 23 = .ok (.iconst (-1), 1) := by decide +kernel
theorem dX11_value_24 : decode cX11_value 24 = .ok (.ireturn, 1) := by decide +kernel
theorem dX11_value_25 : decode cX11_value 25 = .ok (.iload_n 2, 1) := by decide +kernel
theorem dX11_value_26 : decode cX11_value 26 = .ok (.ifCond .ne 9, 3) := by decide +kernel
theorem dX11_value_29 : decode cX11_value 29 = .ok (.aload_n 3, 1) := by decide +kernel
theorem dX11_value_30 : decode cX11_value 30 = .ok (.iload_n 1, 1) := by decide +kernel
theorem dX11_value_31 : decode cX11_value 31 = .ok (.invokevirtual 171, 3) := by decide +kernel
theorem dX11_value_34 : decode cX11_value 34 = .ok (.ireturn, 1) := by decide +kernel
theorem dX11_value_35 : decode cX11_value 35 = .ok (.iload_n 2, 1) := by decide +kernel
theorem dX11_value_36 : decode cX11_value 36 = .ok (.iconst 1, 1) := by decide +kernel
theorem dX11_value_37 : decode cX11_value 37 = .ok (.if_icmp .ne 11, 3) := by decide +kernel
theorem dX11_value_40 : decode cX11_value 40 = .ok (.aload_n 3, 1) := by decide +kernel
theorem dX11_value_41 : decode cX11_value 41 = .ok (.iload_n 1, 1) := by decide +kernel
theorem dX11_value_42 : decode cX11_value 42 = .ok (.invokevirtual 172, 3) := by decide +kernel
theorem dX11_value_45 : decode cX11_value 45 = .ok (.goto 11, 3) := by decide +kernel
theorem dX11_value_48 : decode cX11_value 48 = .ok (.aload_n 3, 1) := by decide +kernel
theorem dX11_value_49 : decode cX11_value 49 = .ok (.iload_n 1, 1) := by decide +kernel
theorem dX11_value_50 : decode cX11_value 50 = .ok (.iload_n 2, 1) := by decide +kernel
theorem dX11_value_51 : decode cX11_value 51 = .ok (.iconst 2, 1) := by decide +kernel
theorem dX11_value_52 : decode cX11_value 52 = .ok (.isub, 1) := by decide +kernel
theorem dX11_value_53 : decode cX11_value 53 = .ok (.invokevirtual 175, 3) := by decide +kernel
theorem dX11_value_56 : decode cX11_value 56 = .ok (.ireturn, 1) := by decide +kernel
theorem dX11_count_0 : decode cX11_count 0 = .ok (.iload_n 1, 1) := by decide +kernel
theorem dX11_count_1 : decode cX11_count 1 = .ok (.tableswitch 83 0 4 #[35, 43, 51, 62, 70], 35) := by decide +kernel
theorem dX11_count_36 : decode cX11_count 36 = .ok (.aload_n 0, 1) := by decide +kernel
theorem dX11_count_37 : decode cX11_count 37 = .ok (.getfield 19, 3) := by decide +kernel
theorem dX11_count_40 : decode cX11_count 40 = .ok (.invokevirtual 89, 3) := by decide +kernel
theorem dX11_count_43 : decode cX11_count 43 = .ok (.ireturn, 1) := by decide +kernel
theorem dX11_count_44 : decode cX11_count 44 = .ok (.aload_n 0, 1) := by decide +kernel
theorem dX11_count_45 : decode cX11_count 45 = .ok (.getfield 10, 3) := by decide +kernel
theorem dX11_count_48 : decode cX11_count 48 = .ok (.invokevirtual 176, 3) := by decide +kernel
theorem dX11_count_51 : decode cX11_count 51 = .ok (.ireturn, 1) := by decide +kernel
theorem dX11_count_52 : decode cX11_count 52 = .ok (.aload_n 0, 1) := by decide +kernel
theorem dX11_count_53 : decode cX11_count 53 = .ok (.getfield 81, 3) := by decide +kernel
theorem dX11_count_56 : decode cX11_count 56 = .ok (.invokevirtual 164, 3) := by decide +kernel
theorem dX11_count_59 : decode cX11_count 59 = .ok (.invokevirtual 177, 3) := by decide +kernel
theorem dX11_count_62 : decode cX11_count 62 = .ok (.ireturn, 1) := by decide +kernel
theorem dX11_count_63 : decode cX11_count 63 = .ok (.aload_n 0, 1) := by decide +kernel
theorem dX11_count_64 : decode cX11_count 64 = .ok (.getfield 81, 3) := by decide +kernel
theorem dX11_count_67 : decode cX11_count 67 = .ok (.invokevirtual 178, 3) := by decide +kernel
theorem dX11_count_70 : decode cX11_count 70 = .ok (.ireturn, 1) := by decide +kernel
theorem dX11_count_71 : decode cX11_count 71 = .ok (.aload_n 0, 1) := by decide +kernel
theorem dX11_count_72 : decode cX11_count 72 = .ok (.getfield 97, 3) := by decide +kernel
theorem dX11_count_75 : decode cX11_count 75 = .ok (.ifCond .eq 7, 3) := by decide +kernel
theorem dX11_count_78 : decode cX11_count 78 = .ok (.iconst 1, 1) := by decide +kernel
theorem dX11_count_79 : decode cX11_count 79 = .ok (.goto 4, 3) := by decide +kernel
theorem dX11_count_82 : decode cX11_count 82 = .ok (.iconst 0, 1) := by decide +kernel
theorem dX11_count_83 : decode cX11_count 83 = .ok (.ireturn, 1) := by decide +kernel
theorem dX11_count_84 : decode cX11_count 84 = .ok (.bipush (-2), 2) := by decide +kernel
theorem dX11_count_86 : decode cX11_count 86 = .ok (.ireturn, 1) := by decide +kernel
theorem dL_law_0 : decode cL_law 0 = .ok (.new 7, 3) := by decide +kernel
theorem dL_law_3 : decode cL_law 3 = .ok (.dup, 1) := by decide +kernel
theorem dL_law_4 : decode cL_law 4 = .ok (.invokespecial 9, 3) := by decide +kernel
theorem dL_law_7 : decode cL_law 7 = .ok (.astore_n 1, 1) := by decide +kernel
theorem dL_law_8 : decode cL_law 8 = .ok (.new 10, 3) := by decide +kernel
theorem dL_law_11 : decode cL_law 11 = .ok (.dup, 1) := by decide +kernel
theorem dL_law_12 : decode cL_law 12 = .ok (.invokespecial 12, 3) := by decide +kernel
theorem dL_law_15 : decode cL_law 15 = .ok (.astore_n 2, 1) := by decide +kernel
theorem dL_law_16 : decode cL_law 16 = .ok (.iconst 0, 1) := by decide +kernel
theorem dL_law_17 : decode cL_law 17 = .ok (.istore_n 3, 1) := by decide +kernel
theorem dL_law_18 : decode cL_law 18 = .ok (.iload_n 3, 1) := by decide +kernel
theorem dL_law_19 : decode cL_law 19 = .ok (.aload_n 0, 1) := by decide +kernel
theorem dL_law_20 : decode cL_law 20 = .ok (.arraylength, 1) := by decide +kernel
theorem dL_law_21 : decode cL_law 21 = .ok (.iconst 4, 1) := by decide +kernel
theorem dL_law_22 : decode cL_law 22 = .ok (.isub, 1) := by decide +kernel
theorem dL_law_23 : decode cL_law 23 = .ok (.if_icmp .gt 449, 3) := by decide +kernel
theorem dL_law_26 : decode cL_law 26 = .ok (.aload_n 0, 1) := by decide +kernel
theorem dL_law_27 : decode cL_law 27 = .ok (.iload_n 3, 1) := by decide +kernel
theorem dL_law_28 : decode cL_law 28 = .ok (.iaload, 1) := by decide +kernel
theorem dL_law_29 : decode cL_law 29 = .ok (.bipush 15, 2) := by decide +kernel
theorem dL_law_31 : decode cL_law 31 = .ok (.iand, 1) := by decide +kernel
theorem dL_law_32 : decode cL_law 32 = .ok (.tableswitch 434 0 13 #[72, 85, 108, 121, 134, 147, 180, 213, 246, 289, 322, 355, 378, 411], 72) := by decide +kernel
theorem dL_law_104 : decode cL_law 104 = .ok (.aload_n 1, 1) := by decide +kernel
theorem dL_law_105 : decode cL_law 105 = .ok (.invokevirtual 13, 3) := by decide +kernel
theorem dL_law_108 : decode cL_law 108 = .ok (.aload_n 2, 1) := by decide +kernel
theorem dL_law_109 : decode cL_law 109 = .ok (.invokevirtual 17, 3) := by decide +kernel
theorem dL_law_112 : decode cL_law 112 = .ok (.if_icmp .eq 354, 3) := by decide +kernel
theorem dL_law_115 : decode cL_law 115 = .ok (.iconst 0, 1) := by decide +kernel
theorem dL_law_116 : decode cL_law 116 = .ok (.ireturn, 1) := by decide +kernel
theorem dL_law_117 : decode cL_law 117 = .ok (.aload_n 1, 1) := by decide +kernel
theorem dL_law_118 : decode cL_law 118 = .ok (.aload_n 0, 1) := by decide +kernel
theorem dL_law_119 : decode cL_law 119 = .ok (.iload_n 3, 1) := by decide +kernel
theorem dL_law_120 : decode cL_law 120 = .ok (.iconst 1, 1) := by decide +kernel
theorem dL_law_121 : decode cL_law 121 = .ok (.iadd, 1) := by decide +kernel
theorem dL_law_122 : decode cL_law 122 = .ok (.iaload, 1) := by decide +kernel
theorem dL_law_123 : decode cL_law 123 = .ok (.invokevirtual 18, 3) := by decide +kernel
theorem dL_law_126 : decode cL_law 126 = .ok (.aload_n 2, 1) := by decide +kernel
theorem dL_law_127 : decode cL_law 127 = .ok (.aload_n 0, 1) := by decide +kernel
theorem dL_law_128 : decode cL_law 128 = .ok (.iload_n 3, 1) := by decide +kernel
theorem dL_law_129 : decode cL_law 129 = .ok (.iconst 1, 1) := by decide +kernel
theorem dL_law_130 : decode cL_law 130 = .ok (.iadd, 1) := by decide +kernel
theorem dL_law_131 : decode cL_law 131 = .ok (.iaload, 1) := by decide +kernel
theorem dL_law_132 : decode cL_law 132 = .ok (.invokevirtual 22, 3) := by decide +kernel
theorem dL_law_135 : decode cL_law 135 = .ok (.if_icmp .eq 331, 3) := by decide +kernel
theorem dL_law_138 : decode cL_law 138 = .ok (.iconst 0, 1) := by decide +kernel
theorem dL_law_139 : decode cL_law 139 = .ok (.ireturn, 1) := by decide +kernel
theorem dL_law_140 : decode cL_law 140 = .ok (.aload_n 1, 1) := by decide +kernel
theorem dL_law_141 : decode cL_law 141 = .ok (.invokevirtual 23, 3) := by decide +kernel
theorem dL_law_144 : decode cL_law 144 = .ok (.aload_n 2, 1) := by decide +kernel
theorem dL_law_145 : decode cL_law 145 = .ok (.invokevirtual 26, 3) := by decide +kernel
theorem dL_law_148 : decode cL_law 148 = .ok (.if_icmp .eq 318, 3) := by decide +kernel
theorem dL_law_151 : decode cL_law 151 = .ok (.iconst 0, 1) := by decide +kernel
theorem dL_law_152 : decode cL_law 152 = .ok (.ireturn, 1) := by decide +kernel
theorem dL_law_153 : decode cL_law 153 = .ok (.aload_n 1, 1) := by decide +kernel
theorem dL_law_154 : decode cL_law 154 = .ok (.invokevirtual 27, 3) := by decide +kernel
theorem dL_law_157 : decode cL_law 157 = .ok (.aload_n 2, 1) := by decide +kernel
theorem dL_law_158 : decode cL_law 158 = .ok (.invokevirtual 30, 3) := by decide +kernel
theorem dL_law_161 : decode cL_law 161 = .ok (.if_icmp .eq 305, 3) := by decide +kernel
theorem dL_law_164 : decode cL_law 164 = .ok (.iconst 0, 1) := by decide +kernel
theorem dL_law_165 : decode cL_law 165 = .ok (.ireturn, 1) := by decide +kernel
theorem dL_law_166 : decode cL_law 166 = .ok (.aload_n 1, 1) := by decide +kernel
theorem dL_law_167 : decode cL_law 167 = .ok (.invokevirtual 31, 3) := by decide +kernel
theorem dL_law_170 : decode cL_law 170 = .ok (.aload_n 2, 1) := by decide +kernel
theorem dL_law_171 : decode cL_law 171 = .ok (.invokevirtual 34, 3) := by decide +kernel
theorem dL_law_174 : decode cL_law 174 = .ok (.if_icmp .eq 292, 3) := by decide +kernel
theorem dL_law_177 : decode cL_law 177 = .ok (.iconst 0, 1) := by decide +kernel
theorem dL_law_178 : decode cL_law 178 = .ok (.ireturn, 1) := by decide +kernel
theorem dL_law_179 : decode cL_law 179 = .ok (.aload_n 1, 1) := by decide +kernel
theorem dL_law_180 : decode cL_law 180 = .ok (.aload_n 0, 1) := by decide +kernel
theorem dL_law_181 : decode cL_law 181 = .ok (.iload_n 3, 1) := by decide +kernel
theorem dL_law_182 : decode cL_law 182 = .ok (.iconst 1, 1) := by decide +kernel
theorem dL_law_183 : decode cL_law 183 = .ok (.iadd, 1) := by decide +kernel
theorem dL_law_184 : decode cL_law 184 = .ok (.iaload, 1) := by decide +kernel
theorem dL_law_185 : decode cL_law 185 = .ok (.aload_n 0, 1) := by decide +kernel
theorem dL_law_186 : decode cL_law 186 = .ok (.iload_n 3, 1) := by decide +kernel
theorem dL_law_187 : decode cL_law 187 = .ok (.iconst 2, 1) := by decide +kernel
theorem dL_law_188 : decode cL_law 188 = .ok (.iadd, 1) := by decide +kernel
theorem dL_law_189 : decode cL_law 189 = .ok (.iaload, 1) := by decide +kernel
theorem dL_law_190 : decode cL_law 190 = .ok (.invokevirtual 35, 3) := by decide +kernel
theorem dL_law_193 : decode cL_law 193 = .ok (.aload_n 2, 1) := by decide +kernel
theorem dL_law_194 : decode cL_law 194 = .ok (.aload_n 0, 1) := by decide +kernel
theorem dL_law_195 : decode cL_law 195 = .ok (.iload_n 3, 1) := by decide +kernel
theorem dL_law_196 : decode cL_law 196 = .ok (.iconst 1, 1) := by decide +kernel
theorem dL_law_197 : decode cL_law 197 = .ok (.iadd, 1) := by decide +kernel
theorem dL_law_198 : decode cL_law 198 = .ok (.iaload, 1) := by decide +kernel
theorem dL_law_199 : decode cL_law 199 = .ok (.aload_n 0, 1) := by decide +kernel
theorem dL_law_200 : decode cL_law 200 = .ok (.iload_n 3, 1) := by decide +kernel
theorem dL_law_201 : decode cL_law 201 = .ok (.iconst 2, 1) := by decide +kernel
theorem dL_law_202 : decode cL_law 202 = .ok (.iadd, 1) := by decide +kernel
theorem dL_law_203 : decode cL_law 203 = .ok (.iaload, 1) := by decide +kernel
theorem dL_law_204 : decode cL_law 204 = .ok (.invokevirtual 39, 3) := by decide +kernel
theorem dL_law_207 : decode cL_law 207 = .ok (.if_icmp .eq 259, 3) := by decide +kernel
theorem dL_law_210 : decode cL_law 210 = .ok (.iconst 0, 1) := by decide +kernel
theorem dL_law_211 : decode cL_law 211 = .ok (.ireturn, 1) := by decide +kernel
theorem dL_law_212 : decode cL_law 212 = .ok (.aload_n 1, 1) := by decide +kernel
theorem dL_law_213 : decode cL_law 213 = .ok (.aload_n 0, 1) := by decide +kernel
theorem dL_law_214 : decode cL_law 214 = .ok (.iload_n 3, 1) := by decide +kernel
theorem dL_law_215 : decode cL_law 215 = .ok (.iconst 1, 1) := by decide +kernel
theorem dL_law_216 : decode cL_law 216 = .ok (.iadd, 1) := by decide +kernel
theorem dL_law_217 : decode cL_law 217 = .ok (.iaload, 1) := by decide +kernel
theorem dL_law_218 : decode cL_law 218 = .ok (.aload_n 0, 1) := by decide +kernel
theorem dL_law_219 : decode cL_law 219 = .ok (.iload_n 3, 1) := by decide +kernel
theorem dL_law_220 : decode cL_law 220 = .ok (.iconst 2, 1) := by decide +kernel
theorem dL_law_221 : decode cL_law 221 = .ok (.iadd, 1) := by decide +kernel
theorem dL_law_222 : decode cL_law 222 = .ok (.iaload, 1) := by decide +kernel
theorem dL_law_223 : decode cL_law 223 = .ok (.invokevirtual 40, 3) := by decide +kernel
theorem dL_law_226 : decode cL_law 226 = .ok (.aload_n 2, 1) := by decide +kernel
theorem dL_law_227 : decode cL_law 227 = .ok (.aload_n 0, 1) := by decide +kernel
theorem dL_law_228 : decode cL_law 228 = .ok (.iload_n 3, 1) := by decide +kernel
theorem dL_law_229 : decode cL_law 229 = .ok (.iconst 1, 1) := by decide +kernel
theorem dL_law_230 : decode cL_law 230 = .ok (.iadd, 1) := by decide +kernel
theorem dL_law_231 : decode cL_law 231 = .ok (.iaload, 1) := by decide +kernel
theorem dL_law_232 : decode cL_law 232 = .ok (.aload_n 0, 1) := by decide +kernel
theorem dL_law_233 : decode cL_law 233 = .ok (.iload_n 3, 1) := by decide +kernel
theorem dL_law_234 : decode cL_law 234 = .ok (.iconst 2, 1) := by decide +kernel
theorem dL_law_235 : decode cL_law 235 = .ok (.iadd, 1) := by decide +kernel
theorem dL_law_236 : decode cL_law 236 = .ok (.iaload, 1) := by decide +kernel
theorem dL_law_237 : decode cL_law 237 = .ok (.invokevirtual 43, 3) := by decide +kernel
theorem dL_law_240 : decode cL_law 240 = .ok (.if_icmp .eq 226, 3) := by decide +kernel
theorem dL_law_243 : decode cL_law 243 = .ok (.iconst 0, 1) := by decide +kernel
theorem dL_law_244 : decode cL_law 244 = .ok (.ireturn, 1) := by decide +kernel
theorem dL_law_245 : decode cL_law 245 = .ok (.aload_n 1, 1) := by decide +kernel
theorem dL_law_246 : decode cL_law 246 = .ok (.aload_n 0, 1) := by decide +kernel
theorem dL_law_247 : decode cL_law 247 = .ok (.iload_n 3, 1) := by decide +kernel
theorem dL_law_248 : decode cL_law 248 = .ok (.iconst 1, 1) := by decide +kernel
theorem dL_law_249 : decode cL_law 249 = .ok (.iadd, 1) := by decide +kernel
theorem dL_law_250 : decode cL_law 250 = .ok (.iaload, 1) := by decide +kernel
theorem dL_law_251 : decode cL_law 251 = .ok (.aload_n 0, 1) := by decide +kernel
theorem dL_law_252 : decode cL_law 252 = .ok (.iload_n 3, 1) := by decide +kernel
theorem dL_law_253 : decode cL_law 253 = .ok (.iconst 2, 1) := by decide +kernel
theorem dL_law_254 : decode cL_law 254 = .ok (.iadd, 1) := by decide +kernel
theorem dL_law_255 : decode cL_law 255 = .ok (.iaload, 1) := by decide +kernel
theorem dL_law_256 : decode cL_law 256 = .ok (.invokevirtual 44, 3) := by decide +kernel
theorem dL_law_259 : decode cL_law 259 = .ok (.aload_n 2, 1) := by decide +kernel
theorem dL_law_260 : decode cL_law 260 = .ok (.aload_n 0, 1) := by decide +kernel
theorem dL_law_261 : decode cL_law 261 = .ok (.iload_n 3, 1) := by decide +kernel
theorem dL_law_262 : decode cL_law 262 = .ok (.iconst 1, 1) := by decide +kernel
theorem dL_law_263 : decode cL_law 263 = .ok (.iadd, 1) := by decide +kernel
theorem dL_law_264 : decode cL_law 264 = .ok (.iaload, 1) := by decide +kernel
theorem dL_law_265 : decode cL_law 265 = .ok (.aload_n 0, 1) := by decide +kernel
theorem dL_law_266 : decode cL_law 266 = .ok (.iload_n 3, 1) := by decide +kernel
theorem dL_law_267 : decode cL_law 267 = .ok (.iconst 2, 1) := by decide +kernel
theorem dL_law_268 : decode cL_law 268 = .ok (.iadd, 1) := by decide +kernel
theorem dL_law_269 : decode cL_law 269 = .ok (.iaload, 1) := by decide +kernel
theorem dL_law_270 : decode cL_law 270 = .ok (.invokevirtual 47, 3) := by decide +kernel
theorem dL_law_273 : decode cL_law 273 = .ok (.if_icmp .eq 193, 3) := by decide +kernel
theorem dL_law_276 : decode cL_law 276 = .ok (.iconst 0, 1) := by decide +kernel
theorem dL_law_277 : decode cL_law 277 = .ok (.ireturn, 1) := by decide +kernel
theorem dL_law_278 : decode cL_law 278 = .ok (.aload_n 1, 1) := by decide +kernel
theorem dL_law_279 : decode cL_law 279 = .ok (.aload_n 0, 1) := by decide +kernel
theorem dL_law_280 : decode cL_law 280 = .ok (.iload_n 3, 1) := by decide +kernel
theorem dL_law_281 : decode cL_law 281 = .ok (.iconst 1, 1) := by decide +kernel
theorem dL_law_282 : decode cL_law 282 = .ok (.iadd, 1) := by decide +kernel
theorem dL_law_283 : decode cL_law 283 = .ok (.iaload, 1) := by decide +kernel
theorem dL_law_284 : decode cL_law 284 = .ok (.aload_n 0, 1) := by decide +kernel
theorem dL_law_285 : decode cL_law 285 = .ok (.iload_n 3, 1) := by decide +kernel
theorem dL_law_286 : decode cL_law 286 = .ok (.iconst 2, 1) := by decide +kernel
theorem dL_law_287 : decode cL_law 287 = .ok (.iadd, 1) := by decide +kernel
theorem dL_law_288 : decode cL_law 288 = .ok (.iaload, 1) := by decide +kernel
theorem dL_law_289 : decode cL_law 289 = .ok (.aload_n 0, 1) := by decide +kernel
theorem dL_law_290 : decode cL_law 290 = .ok (.iload_n 3, 1) := by decide +kernel
theorem dL_law_291 : decode cL_law 291 = .ok (.iconst 3, 1) := by decide +kernel
theorem dL_law_292 : decode cL_law 292 = .ok (.iadd, 1) := by decide +kernel
theorem dL_law_293 : decode cL_law 293 = .ok (.iaload, 1) := by decide +kernel
theorem dL_law_294 : decode cL_law 294 = .ok (.invokevirtual 48, 3) := by decide +kernel
theorem dL_law_297 : decode cL_law 297 = .ok (.aload_n 2, 1) := by decide +kernel
theorem dL_law_298 : decode cL_law 298 = .ok (.aload_n 0, 1) := by decide +kernel
theorem dL_law_299 : decode cL_law 299 = .ok (.iload_n 3, 1) := by decide +kernel
theorem dL_law_300 : decode cL_law 300 = .ok (.iconst 1, 1) := by decide +kernel
theorem dL_law_301 : decode cL_law 301 = .ok (.iadd, 1) := by decide +kernel
theorem dL_law_302 : decode cL_law 302 = .ok (.iaload, 1) := by decide +kernel
theorem dL_law_303 : decode cL_law 303 = .ok (.aload_n 0, 1) := by decide +kernel
theorem dL_law_304 : decode cL_law 304 = .ok (.iload_n 3, 1) := by decide +kernel
theorem dL_law_305 : decode cL_law 305 = .ok (.iconst 2, 1) := by decide +kernel
theorem dL_law_306 : decode cL_law 306 = .ok (.iadd, 1) := by decide +kernel
theorem dL_law_307 : decode cL_law 307 = .ok (.iaload, 1) := by decide +kernel
theorem dL_law_308 : decode cL_law 308 = .ok (.aload_n 0, 1) := by decide +kernel
theorem dL_law_309 : decode cL_law 309 = .ok (.iload_n 3, 1) := by decide +kernel
theorem dL_law_310 : decode cL_law 310 = .ok (.iconst 3, 1) := by decide +kernel
theorem dL_law_311 : decode cL_law 311 = .ok (.iadd, 1) := by decide +kernel
theorem dL_law_312 : decode cL_law 312 = .ok (.iaload, 1) := by decide +kernel
theorem dL_law_313 : decode cL_law 313 = .ok (.invokevirtual 52, 3) := by decide +kernel
theorem dL_law_316 : decode cL_law 316 = .ok (.if_icmp .eq 150, 3) := by decide +kernel
theorem dL_law_319 : decode cL_law 319 = .ok (.iconst 0, 1) := by decide +kernel
theorem dL_law_320 : decode cL_law 320 = .ok (.ireturn, 1) := by decide +kernel
theorem dL_law_321 : decode cL_law 321 = .ok (.aload_n 1, 1) := by decide +kernel
theorem dL_law_322 : decode cL_law 322 = .ok (.aload_n 0, 1) := by decide +kernel
theorem dL_law_323 : decode cL_law 323 = .ok (.iload_n 3, 1) := by decide +kernel
theorem dL_law_324 : decode cL_law 324 = .ok (.iconst 1, 1) := by decide +kernel
theorem dL_law_325 : decode cL_law 325 = .ok (.iadd, 1) := by decide +kernel
theorem dL_law_326 : decode cL_law 326 = .ok (.iaload, 1) := by decide +kernel
theorem dL_law_327 : decode cL_law 327 = .ok (.aload_n 0, 1) := by decide +kernel
theorem dL_law_328 : decode cL_law 328 = .ok (.iload_n 3, 1) := by decide +kernel
theorem dL_law_329 : decode cL_law 329 = .ok (.iconst 2, 1) := by decide +kernel
theorem dL_law_330 : decode cL_law 330 = .ok (.iadd, 1) := by decide +kernel
theorem dL_law_331 : decode cL_law 331 = .ok (.iaload, 1) := by decide +kernel
theorem dL_law_332 : decode cL_law 332 = .ok (.invokevirtual 53, 3) := by decide +kernel
theorem dL_law_335 : decode cL_law 335 = .ok (.aload_n 2, 1) := by decide +kernel
theorem dL_law_336 : decode cL_law 336 = .ok (.aload_n 0, 1) := by decide +kernel
theorem dL_law_337 : decode cL_law 337 = .ok (.iload_n 3, 1) := by decide +kernel
theorem dL_law_338 : decode cL_law 338 = .ok (.iconst 1, 1) := by decide +kernel
theorem dL_law_339 : decode cL_law 339 = .ok (.iadd, 1) := by decide +kernel
theorem dL_law_340 : decode cL_law 340 = .ok (.iaload, 1) := by decide +kernel
theorem dL_law_341 : decode cL_law 341 = .ok (.aload_n 0, 1) := by decide +kernel
theorem dL_law_342 : decode cL_law 342 = .ok (.iload_n 3, 1) := by decide +kernel
theorem dL_law_343 : decode cL_law 343 = .ok (.iconst 2, 1) := by decide +kernel
theorem dL_law_344 : decode cL_law 344 = .ok (.iadd, 1) := by decide +kernel
theorem dL_law_345 : decode cL_law 345 = .ok (.iaload, 1) := by decide +kernel
theorem dL_law_346 : decode cL_law 346 = .ok (.invokevirtual 56, 3) := by decide +kernel
theorem dL_law_349 : decode cL_law 349 = .ok (.if_icmp .eq 117, 3) := by decide +kernel
theorem dL_law_352 : decode cL_law 352 = .ok (.iconst 0, 1) := by decide +kernel
theorem dL_law_353 : decode cL_law 353 = .ok (.ireturn, 1) := by decide +kernel
theorem dL_law_354 : decode cL_law 354 = .ok (.aload_n 1, 1) := by decide +kernel
theorem dL_law_355 : decode cL_law 355 = .ok (.aload_n 0, 1) := by decide +kernel
theorem dL_law_356 : decode cL_law 356 = .ok (.iload_n 3, 1) := by decide +kernel
theorem dL_law_357 : decode cL_law 357 = .ok (.iconst 1, 1) := by decide +kernel
theorem dL_law_358 : decode cL_law 358 = .ok (.iadd, 1) := by decide +kernel
theorem dL_law_359 : decode cL_law 359 = .ok (.iaload, 1) := by decide +kernel
theorem dL_law_360 : decode cL_law 360 = .ok (.aload_n 0, 1) := by decide +kernel
theorem dL_law_361 : decode cL_law 361 = .ok (.iload_n 3, 1) := by decide +kernel
theorem dL_law_362 : decode cL_law 362 = .ok (.iconst 2, 1) := by decide +kernel
theorem dL_law_363 : decode cL_law 363 = .ok (.iadd, 1) := by decide +kernel
theorem dL_law_364 : decode cL_law 364 = .ok (.iaload, 1) := by decide +kernel
theorem dL_law_365 : decode cL_law 365 = .ok (.invokevirtual 57, 3) := by decide +kernel
theorem dL_law_368 : decode cL_law 368 = .ok (.aload_n 2, 1) := by decide +kernel
theorem dL_law_369 : decode cL_law 369 = .ok (.aload_n 0, 1) := by decide +kernel
theorem dL_law_370 : decode cL_law 370 = .ok (.iload_n 3, 1) := by decide +kernel
theorem dL_law_371 : decode cL_law 371 = .ok (.iconst 1, 1) := by decide +kernel
theorem dL_law_372 : decode cL_law 372 = .ok (.iadd, 1) := by decide +kernel
theorem dL_law_373 : decode cL_law 373 = .ok (.iaload, 1) := by decide +kernel
theorem dL_law_374 : decode cL_law 374 = .ok (.aload_n 0, 1) := by decide +kernel
theorem dL_law_375 : decode cL_law 375 = .ok (.iload_n 3, 1) := by decide +kernel
theorem dL_law_376 : decode cL_law 376 = .ok (.iconst 2, 1) := by decide +kernel
theorem dL_law_377 : decode cL_law 377 = .ok (.iadd, 1) := by decide +kernel
theorem dL_law_378 : decode cL_law 378 = .ok (.iaload, 1) := by decide +kernel
theorem dL_law_379 : decode cL_law 379 = .ok (.invokevirtual 60, 3) := by decide +kernel
theorem dL_law_382 : decode cL_law 382 = .ok (.if_icmp .eq 84, 3) := by decide +kernel
theorem dL_law_385 : decode cL_law 385 = .ok (.iconst 0, 1) := by decide +kernel
theorem dL_law_386 : decode cL_law 386 = .ok (.ireturn, 1) := by decide +kernel
theorem dL_law_387 : decode cL_law 387 = .ok (.aload_n 1, 1) := by decide +kernel
theorem dL_law_388 : decode cL_law 388 = .ok (.aload_n 0, 1) := by decide +kernel
theorem dL_law_389 : decode cL_law 389 = .ok (.iload_n 3, 1) := by decide +kernel
theorem dL_law_390 : decode cL_law 390 = .ok (.iconst 1, 1) := by decide +kernel
theorem dL_law_391 : decode cL_law 391 = .ok (.iadd, 1) := by decide +kernel
theorem dL_law_392 : decode cL_law 392 = .ok (.iaload, 1) := by decide +kernel
theorem dL_law_393 : decode cL_law 393 = .ok (.invokevirtual 61, 3) := by decide +kernel
theorem dL_law_396 : decode cL_law 396 = .ok (.aload_n 2, 1) := by decide +kernel
theorem dL_law_397 : decode cL_law 397 = .ok (.aload_n 0, 1) := by decide +kernel
theorem dL_law_398 : decode cL_law 398 = .ok (.iload_n 3, 1) := by decide +kernel
theorem dL_law_399 : decode cL_law 399 = .ok (.iconst 1, 1) := by decide +kernel
theorem dL_law_400 : decode cL_law 400 = .ok (.iadd, 1) := by decide +kernel
theorem dL_law_401 : decode cL_law 401 = .ok (.iaload, 1) := by decide +kernel
theorem dL_law_402 : decode cL_law 402 = .ok (.invokevirtual 64, 3) := by decide +kernel
theorem dL_law_405 : decode cL_law 405 = .ok (.if_icmp .eq 61, 3) := by decide +kernel
theorem dL_law_408 : decode cL_law 408 = .ok (.iconst 0, 1) := by decide +kernel
theorem dL_law_409 : decode cL_law 409 = .ok (.ireturn, 1) := by decide +kernel
theorem dL_law_410 : decode cL_law 410 = .ok (.aload_n 1, 1) := by decide +kernel
theorem dL_law_411 : decode cL_law 411 = .ok (.aload_n 0, 1) := by decide +kernel
theorem dL_law_412 : decode cL_law 412 = .ok (.iload_n 3, 1) := by decide +kernel
theorem dL_law_413 : decode cL_law 413 = .ok (.iconst 1, 1) := by decide +kernel
theorem dL_law_414 : decode cL_law 414 = .ok (.iadd, 1) := by decide +kernel
theorem dL_law_415 : decode cL_law 415 = .ok (.iaload, 1) := by decide +kernel
theorem dL_law_416 : decode cL_law 416 = .ok (.aload_n 0, 1) := by decide +kernel
theorem dL_law_417 : decode cL_law 417 = .ok (.iload_n 3, 1) := by decide +kernel
theorem dL_law_418 : decode cL_law 418 = .ok (.iconst 2, 1) := by decide +kernel
theorem dL_law_419 : decode cL_law 419 = .ok (.iadd, 1) := by decide +kernel
theorem dL_law_420 : decode cL_law 420 = .ok (.iaload, 1) := by decide +kernel
theorem dL_law_421 : decode cL_law 421 = .ok (.invokevirtual 65, 3) := by decide +kernel
theorem dL_law_424 : decode cL_law 424 = .ok (.aload_n 2, 1) := by decide +kernel
theorem dL_law_425 : decode cL_law 425 = .ok (.aload_n 0, 1) := by decide +kernel
theorem dL_law_426 : decode cL_law 426 = .ok (.iload_n 3, 1) := by decide +kernel
theorem dL_law_427 : decode cL_law 427 = .ok (.iconst 1, 1) := by decide +kernel
theorem dL_law_428 : decode cL_law 428 = .ok (.iadd, 1) := by decide +kernel
theorem dL_law_429 : decode cL_law 429 = .ok (.iaload, 1) := by decide +kernel
theorem dL_law_430 : decode cL_law 430 = .ok (.aload_n 0, 1) := by decide +kernel
theorem dL_law_431 : decode cL_law 431 = .ok (.iload_n 3, 1) := by decide +kernel
theorem dL_law_432 : decode cL_law 432 = .ok (.iconst 2, 1) := by decide +kernel
theorem dL_law_433 : decode cL_law 433 = .ok (.iadd, 1) := by decide +kernel
theorem dL_law_434 : decode cL_law 434 = .ok (.iaload, 1) := by decide +kernel
theorem dL_law_435 : decode cL_law 435 = .ok (.invokevirtual 68, 3) := by decide +kernel
theorem dL_law_438 : decode cL_law 438 = .ok (.if_icmp .eq 28, 3) := by decide +kernel
theorem dL_law_441 : decode cL_law 441 = .ok (.iconst 0, 1) := by decide +kernel
theorem dL_law_442 : decode cL_law 442 = .ok (.ireturn, 1) := by decide +kernel
theorem dL_law_443 : decode cL_law 443 = .ok (.aload_n 1, 1) := by decide +kernel
theorem dL_law_444 : decode cL_law 444 = .ok (.aload_n 0, 1) := by decide +kernel
theorem dL_law_445 : decode cL_law 445 = .ok (.iload_n 3, 1) := by decide +kernel
theorem dL_law_446 : decode cL_law 446 = .ok (.iconst 1, 1) := by decide +kernel
theorem dL_law_447 : decode cL_law 447 = .ok (.iadd, 1) := by decide +kernel
theorem dL_law_448 : decode cL_law 448 = .ok (.iaload, 1) := by decide +kernel
theorem dL_law_449 : decode cL_law 449 = .ok (.invokevirtual 69, 3) := by decide +kernel
theorem dL_law_452 : decode cL_law 452 = .ok (.aload_n 2, 1) := by decide +kernel
theorem dL_law_453 : decode cL_law 453 = .ok (.aload_n 0, 1) := by decide +kernel
theorem dL_law_454 : decode cL_law 454 = .ok (.iload_n 3, 1) := by decide +kernel
theorem dL_law_455 : decode cL_law 455 = .ok (.iconst 1, 1) := by decide +kernel
theorem dL_law_456 : decode cL_law 456 = .ok (.iadd, 1) := by decide +kernel
theorem dL_law_457 : decode cL_law 457 = .ok (.iaload, 1) := by decide +kernel
theorem dL_law_458 : decode cL_law 458 = .ok (.invokevirtual 72, 3) := by decide +kernel
theorem dL_law_461 : decode cL_law 461 = .ok (.if_icmp .eq 5, 3) := by decide +kernel
theorem dL_law_464 : decode cL_law 464 = .ok (.iconst 0, 1) := by decide +kernel
theorem dL_law_465 : decode cL_law 465 = .ok (.ireturn, 1) := by decide +kernel
theorem dL_law_466 : decode cL_law 466 = .ok (.iinc 3 4, 3) := by decide +kernel
theorem dL_law_469 : decode cL_law 469 = .ok (.goto (-451), 3) := by decide +kernel
theorem dL_law_472 : decode cL_law 472 = .ok (.iconst 1, 1) := by decide +kernel
theorem dL_law_473 : decode cL_law 473 = .ok (.ireturn, 1) := by decide +kernel
