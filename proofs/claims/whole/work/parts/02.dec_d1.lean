theorem dX9_init_0 : decode cX9_init 0 = .ok (.aload_n 0, 1) := by decide +kernel
theorem dX9_init_1 : decode cX9_init 1 = .ok (.invokespecial 1, 3) := by decide +kernel
theorem dX9_init_4 : decode cX9_init 4 = .ok (.aload_n 0, 1) := by decide +kernel
theorem dX9_init_5 : decode cX9_init 5 = .ok (.bipush 74, 2) := by decide +kernel
theorem dX9_init_7 : decode cX9_init 7 = .ok (.newarray .int, 2) := by decide +kernel
theorem dX9_init_9 : decode cX9_init 9 = .ok (.putfield 7, 3) := by decide +kernel
theorem dX9_init_12 : decode cX9_init 12 = .ok (.aload_n 0, 1) := by decide +kernel
theorem dX9_init_13 : decode cX9_init 13 = .ok (.bipush 74, 2) := by decide +kernel
theorem dX9_init_15 : decode cX9_init 15 = .ok (.newarray .int, 2) := by decide +kernel
theorem dX9_init_17 : decode cX9_init 17 = .ok (.putfield 13, 3) := by decide +kernel
theorem dX9_init_20 : decode cX9_init 20 = .ok (.aload_n 0, 1) := by decide +kernel
theorem dX9_init_21 : decode cX9_init 21 = .ok (.sipush 740, 3) := by decide +kernel
theorem dX9_init_24 : decode cX9_init 24 = .ok (.newarray .int, 2) := by decide +kernel
theorem dX9_init_26 : decode cX9_init 26 = .ok (.putfield 16, 3) := by decide +kernel
theorem dX9_init_29 : decode cX9_init 29 = .ok (.aload_n 0, 1) := by decide +kernel
theorem dX9_init_30 : decode cX9_init 30 = .ok (.sipush 148, 3) := by decide +kernel
theorem dX9_init_33 : decode cX9_init 33 = .ok (.newarray .int, 2) := by decide +kernel
theorem dX9_init_35 : decode cX9_init 35 = .ok (.putfield 19, 3) := by decide +kernel
theorem dX9_init_38 : decode cX9_init 38 = .ok (.aload_n 0, 1) := by decide +kernel
theorem dX9_init_39 : decode cX9_init 39 = .ok (.iconst 2, 1) := by decide +kernel
theorem dX9_init_40 : decode cX9_init 40 = .ok (.newarray .boolean, 2) := by decide +kernel
theorem dX9_init_42 : decode cX9_init 42 = .ok (.putfield 22, 3) := by decide +kernel
theorem dX9_init_45 : decode cX9_init 45 = .ok (.aload_n 0, 1) := by decide +kernel
theorem dX9_init_46 : decode cX9_init 46 = .ok (.bipush 6, 2) := by decide +kernel
theorem dX9_init_48 : decode cX9_init 48 = .ok (.newarray .int, 2) := by decide +kernel
theorem dX9_init_50 : decode cX9_init 50 = .ok (.putfield 26, 3) := by decide +kernel
theorem dX9_init_53 : decode cX9_init 53 = .ok (.aload_n 0, 1) := by decide +kernel
theorem dX9_init_54 : decode cX9_init 54 = .ok (.bipush 6, 2) := by decide +kernel
theorem dX9_init_56 : decode cX9_init 56 = .ok (.newarray .int, 2) := by decide +kernel
theorem dX9_init_58 : decode cX9_init 58 = .ok (.putfield 29, 3) := by decide +kernel
theorem dX9_init_61 : decode cX9_init 61 = .ok (.aload_n 0, 1) := by decide +kernel
theorem dX9_init_62 : decode cX9_init 62 = .ok (.bipush 6, 2) := by decide +kernel
theorem dX9_init_64 : decode cX9_init 64 = .ok (.newarray .int, 2) := by decide +kernel
theorem dX9_init_66 : decode cX9_init 66 = .ok (.putfield 32, 3) := by decide +kernel
theorem dX9_init_69 : decode cX9_init 69 = .ok (.aload_n 0, 1) := by decide +kernel
theorem dX9_init_70 : decode cX9_init 70 = .ok (.bipush 80, 2) := by decide +kernel
theorem dX9_init_72 : decode cX9_init 72 = .ok (.newarray .int, 2) := by decide +kernel
theorem dX9_init_74 : decode cX9_init 74 = .ok (.putfield 35, 3) := by decide +kernel
theorem dX9_init_77 : decode cX9_init 77 = .ok (.aload_n 0, 1) := by decide +kernel
theorem dX9_init_78 : decode cX9_init 78 = .ok (.bipush 17, 2) := by decide +kernel
theorem dX9_init_80 : decode cX9_init 80 = .ok (.newarray .int, 2) := by decide +kernel
theorem dX9_init_82 : decode cX9_init 82 = .ok (.putfield 38, 3) := by decide +kernel
theorem dX9_init_85 : decode cX9_init 85 = .ok (.aload_n 0, 1) := by decide +kernel
theorem dX9_init_86 : decode cX9_init 86 = .ok (.bipush 17, 2) := by decide +kernel
theorem dX9_init_88 : decode cX9_init 88 = .ok (.newarray .int, 2) := by decide +kernel
theorem dX9_init_90 : decode cX9_init 90 = .ok (.putfield 41, 3) := by decide +kernel
theorem dX9_init_93 : decode cX9_init 93 = .ok (.aload_n 0, 1) := by decide +kernel
theorem dX9_init_94 : decode cX9_init 94 = .ok (.bipush 17, 2) := by decide +kernel
theorem dX9_init_96 : decode cX9_init 96 = .ok (.newarray .int, 2) := by decide +kernel
theorem dX9_init_98 : decode cX9_init 98 = .ok (.putfield 44, 3) := by decide +kernel
theorem dX9_init_101 : decode cX9_init 101 = .ok (.aload_n 0, 1) := by decide +kernel
theorem dX9_init_102 : decode cX9_init 102 = .ok (.bipush 17, 2) := by decide +kernel
theorem dX9_init_104 : decode cX9_init 104 = .ok (.newarray .int, 2) := by decide +kernel
theorem dX9_init_106 : decode cX9_init 106 = .ok (.putfield 47, 3) := by decide +kernel
theorem dX9_init_109 : decode cX9_init 109 = .ok (.aload_n 0, 1) := by decide +kernel
theorem dX9_init_110 : decode cX9_init 110 = .ok (.sipush 256, 3) := by decide +kernel
theorem dX9_init_113 : decode cX9_init 113 = .ok (.newarray .int, 2) := by decide +kernel
theorem dX9_init_115 : decode cX9_init 115 = .ok (.putfield 50, 3) := by decide +kernel
theorem dX9_init_118 : decode cX9_init 118 = .ok (.aload_n 0, 1) := by decide +kernel
theorem dX9_init_119 : decode cX9_init 119 = .ok (.bipush 8, 2) := by decide +kernel
theorem dX9_init_121 : decode cX9_init 121 = .ok (.newarray .int, 2) := by decide +kernel
theorem dX9_init_123 : decode cX9_init 123 = .ok (.putfield 53, 3) := by decide +kernel
theorem dX9_init_126 : decode cX9_init 126 = .ok (.aload_n 0, 1) := by decide +kernel
theorem dX9_init_127 : decode cX9_init 127 = .ok (.bipush 8, 2) := by decide +kernel
theorem dX9_init_129 : decode cX9_init 129 = .ok (.newarray .int, 2) := by decide +kernel
theorem dX9_init_131 : decode cX9_init 131 = .ok (.putfield 56, 3) := by decide +kernel
theorem dX9_init_134 : decode cX9_init 134 = .ok (.aload_n 0, 1) := by decide +kernel
theorem dX9_init_135 : decode cX9_init 135 = .ok (.iconst 0, 1) := by decide +kernel
theorem dX9_init_136 : decode cX9_init 136 = .ok (.putfield 59, 3) := by decide +kernel
theorem dX9_init_139 : decode cX9_init 139 = .ok (.return_, 1) := by decide +kernel
theorem dX9_in_0 : decode cX9_in 0 = .ok (.iload_n 0, 1) := by decide +kernel
theorem dX9_in_1 : decode cX9_in 1 = .ok (.iload_n 1, 1) := by decide +kernel
theorem dX9_in_2 : decode cX9_in 2 = .ok (.if_icmp .lt 12, 3) := by decide +kernel
theorem dX9_in_5 : decode cX9_in 5 = .ok (.iload_n 0, 1) := by decide +kernel
theorem dX9_in_6 : decode cX9_in 6 = .ok (.iload_n 2, 1) := by decide +kernel
theorem dX9_in_7 : decode cX9_in 7 = .ok (.if_icmp .gt 7, 3) := by decide +kernel
theorem dX9_in_10 : decode cX9_in 10 = .ok (.iconst 1, 1) := by decide +kernel
theorem dX9_in_11 : decode cX9_in 11 = .ok (.goto 4, 3) := by decide +kernel
theorem dX9_in_14 : decode cX9_in 14 = .ok (.iconst 0, 1) := by decide +kernel
theorem dX9_in_15 : decode cX9_in 15 = .ok (.ireturn, 1) := by decide +kernel
theorem dX9_isClause_0 : decode cX9_isClause 0 = .ok (.iload_n 1, 1) := by decide +kernel
theorem dX9_isClause_1 : decode cX9_isClause 1 = .ok (.iconst 0, 1) := by decide +kernel
theorem dX9_isClause_2 : decode cX9_isClause 2 = .ok (.aload_n 0, 1) := by decide +kernel
theorem dX9_isClause_3 : decode cX9_isClause 3 = .ok (.getfield 7, 3) := by decide +kernel
theorem dX9_isClause_6 : decode cX9_isClause 6 = .ok (.iconst 0, 1) := by decide +kernel
theorem dX9_isClause_7 : decode cX9_isClause 7 = .ok (.iaload, 1) := by decide +kernel
theorem dX9_isClause_8 : decode cX9_isClause 8 = .ok (.iconst 1, 1) := by decide +kernel
theorem dX9_isClause_9 : decode cX9_isClause 9 = .ok (.isub, 1) := by decide +kernel
theorem dX9_isClause_10 : decode cX9_isClause 10 = .ok (.invokestatic 66, 3) := by decide +kernel
theorem dX9_isClause_13 : decode cX9_isClause 13 = .ok (.ireturn, 1) := by decide +kernel
theorem dX9_isStatement_0 : decode cX9_isStatement 0 = .ok (.iload_n 1, 1) := by decide +kernel
theorem dX9_isStatement_1 : decode cX9_isStatement 1 = .ok (.iconst 0, 1) := by decide +kernel
theorem dX9_isStatement_2 : decode cX9_isStatement 2 = .ok (.aload_n 0, 1) := by decide +kernel
theorem dX9_isStatement_3 : decode cX9_isStatement 3 = .ok (.getfield 7, 3) := by decide +kernel
theorem dX9_isStatement_6 : decode cX9_isStatement 6 = .ok (.iconst 1, 1) := by decide +kernel
theorem dX9_isStatement_7 : decode cX9_isStatement 7 = .ok (.iaload, 1) := by decide +kernel
theorem dX9_isStatement_8 : decode cX9_isStatement 8 = .ok (.iconst 1, 1) := by decide +kernel
theorem dX9_isStatement_9 : decode cX9_isStatement 9 = .ok (.isub, 1) := by decide +kernel
theorem dX9_isStatement_10 : decode cX9_isStatement 10 = .ok (.invokestatic 66, 3) := by decide +kernel
theorem dX9_isStatement_13 : decode cX9_isStatement 13 = .ok (.ireturn, 1) := by decide +kernel
theorem dX9_isTime_0 : decode cX9_isTime 0 = .ok (.iload_n 1, 1) := by decide +kernel
theorem dX9_isTime_1 : decode cX9_isTime 1 = .ok (.iconst 0, 1) := by decide +kernel
theorem dX9_isTime_2 : decode cX9_isTime 2 = .ok (.iconst 2, 1) := by decide +kernel
theorem dX9_isTime_3 : decode cX9_isTime 3 = .ok (.aload_n 0, 1) := by decide +kernel
theorem dX9_isTime_4 : decode cX9_isTime 4 = .ok (.getfield 7, 3) := by decide +kernel
theorem dX9_isTime_7 : decode cX9_isTime 7 = .ok (.iconst 0, 1) := by decide +kernel
theorem dX9_isTime_8 : decode cX9_isTime 8 = .ok (.iaload, 1) := by decide +kernel
theorem dX9_isTime_9 : decode cX9_isTime 9 = .ok (.imul, 1) := by decide +kernel
theorem dX9_isTime_10 : decode cX9_isTime 10 = .ok (.invokestatic 66, 3) := by decide +kernel
theorem dX9_isTime_13 : decode cX9_isTime 13 = .ok (.ireturn, 1) := by decide +kernel
theorem dX9_isSaid_0 : decode cX9_isSaid 0 = .ok (.aload_n 0, 1) := by decide +kernel
theorem dX9_isSaid_1 : decode cX9_isSaid 1 = .ok (.iload_n 1, 1) := by decide +kernel
theorem dX9_isSaid_2 : decode cX9_isSaid 2 = .ok (.invokevirtual 70, 3) := by decide +kernel
theorem dX9_isSaid_5 : decode cX9_isSaid 5 = .ok (.ifCond .eq 13, 3) := by decide +kernel
theorem dX9_isSaid_8 : decode cX9_isSaid 8 = .ok (.iload_n 1, 1) := by decide +kernel
theorem dX9_isSaid_9 : decode cX9_isSaid 9 = .ok (.iconst 2, 1) := by decide +kernel
theorem dX9_isSaid_10 : decode cX9_isSaid 10 = .ok (.irem, 1) := by decide +kernel
theorem dX9_isSaid_11 : decode cX9_isSaid 11 = .ok (.ifCond .ne 7, 3) := by decide +kernel
theorem dX9_isSaid_14 : decode cX9_isSaid 14 = .ok (.iconst 1, 1) := by decide +kernel
theorem dX9_isSaid_15 : decode cX9_isSaid 15 = .ok (.goto 4, 3) := by decide +kernel
theorem dX9_isSaid_18 : decode cX9_isSaid 18 = .ok (.iconst 0, 1) := by decide +kernel
theorem dX9_isSaid_19 : decode cX9_isSaid 19 = .ok (.ireturn, 1) := by decide +kernel
theorem dX9_ofStatement_0 : decode cX9_ofStatement 0 = .ok (.aload_n 0, 1) := by decide +kernel
theorem dX9_ofStatement_1 : decode cX9_ofStatement 1 = .ok (.getfield 7, 3) := by decide +kernel
theorem dX9_ofStatement_4 : decode cX9_ofStatement 4 = .ok (.bipush 18, 2) := by decide +kernel
theorem dX9_ofStatement_6 : decode cX9_ofStatement 6 = .ok (.iconst 4, 1) := by decide +kernel
theorem dX9_ofStatement_7 : decode cX9_ofStatement 7 = .ok (.iload_n 1, 1) := by decide +kernel
theorem dX9_ofStatement_8 : decode cX9_ofStatement 8 = .ok (.imul, 1) := by decide +kernel
theorem dX9_ofStatement_9 : decode cX9_ofStatement 9 = .ok (.iadd, 1) := by decide +kernel
theorem dX9_ofStatement_10 : decode cX9_ofStatement 10 = .ok (.iload_n 2, 1) := by decide +kernel
theorem dX9_ofStatement_11 : decode cX9_ofStatement 11 = .ok (.iadd, 1) := by decide +kernel
theorem dX9_ofStatement_12 : decode cX9_ofStatement 12 = .ok (.iaload, 1) := by decide +kernel
theorem dX9_ofStatement_13 : decode cX9_ofStatement 13 = .ok (.ireturn, 1) := by decide +kernel
theorem dX9_sayings_0 : decode cX9_sayings 0 = .ok (.aload_n 0, 1) := by decide +kernel
theorem dX9_sayings_1 : decode cX9_sayings 1 = .ok (.getfield 7, 3) := by decide +kernel
theorem dX9_sayings_4 : decode cX9_sayings 4 = .ok (.iconst 1, 1) := by decide +kernel
theorem dX9_sayings_5 : decode cX9_sayings 5 = .ok (.iaload, 1) := by decide +kernel
theorem dX9_sayings_6 : decode cX9_sayings 6 = .ok (.aload_n 0, 1) := by decide +kernel
theorem dX9_sayings_7 : decode cX9_sayings 7 = .ok (.getfield 7, 3) := by decide +kernel
theorem dX9_sayings_10 : decode cX9_sayings 10 = .ok (.iconst 0, 1) := by decide +kernel
theorem dX9_sayings_11 : decode cX9_sayings 11 = .ok (.iaload, 1) := by decide +kernel
theorem dX9_sayings_12 : decode cX9_sayings 12 = .ok (.isub, 1) := by decide +kernel
theorem dX9_sayings_13 : decode cX9_sayings 13 = .ok (.ireturn, 1) := by decide +kernel
theorem dX9_all_0 : decode cX9_all 0 = .ok (.iconst 1, 1) := by decide +kernel
theorem dX9_all_1 : decode cX9_all 1 = .ok (.aload_n 0, 1) := by decide +kernel
theorem dX9_all_2 : decode cX9_all 2 = .ok (.getfield 7, 3) := by decide +kernel
theorem dX9_all_5 : decode cX9_all 5 = .ok (.iconst 1, 1) := by decide +kernel
theorem dX9_all_6 : decode cX9_all 6 = .ok (.iaload, 1) := by decide +kernel
theorem dX9_all_7 : decode cX9_all 7 = .ok (.ishl, 1) := by decide +kernel
theorem dX9_all_8 : decode cX9_all 8 = .ok (.iconst 1, 1) := by decide +kernel
theorem dX9_all_9 : decode cX9_all 9 = .ok (.isub, 1) := by decide +kernel
theorem dX9_all_10 : decode cX9_all 10 = .ok (.ireturn, 1) := by decide +kernel
theorem dX9_type_0 : decode cX9_type 0 = .ok (.aload_n 0, 1) := by decide +kernel
theorem dX9_type_1 : decode cX9_type 1 = .ok (.iconst 0, 1) := by decide +kernel
theorem dX9_type_2 : decode cX9_type 2 = .ok (.putfield 63, 3) := by decide +kernel
theorem dX9_type_5 : decode cX9_type 5 = .ok (.iload_n 1, 1) := by decide +kernel
theorem dX9_type_6 : decode cX9_type 6 = .ok (.iconst 0, 1) := by decide +kernel
theorem dX9_type_7 : decode cX9_type 7 = .ok (.sipush 255, 3) := by decide +kernel
theorem dX9_type_10 : decode cX9_type 10 = .ok (.invokestatic 66, 3) := by decide +kernel
theorem dX9_type_13 : decode cX9_type 13 = .ok (.ifCond .ne 5, 3) := by decide +kernel
theorem dX9_type_16 : decode cX9_type 16 = .ok (.iconst (-1), 1) := by decide +kernel
theorem dX9_type_17 : decode cX9_type 17 = .ok (.ireturn, 1) := by decide +kernel
theorem dX9_type_18 : decode cX9_type 18 = .ok (.aload_n 0, 1) := by decide +kernel
theorem dX9_type_19 : decode cX9_type 19 = .ok (.getfield 74, 3) := by decide +kernel
theorem dX9_type_22 : decode cX9_type 22 = .ok (.bipush 80, 2) := by decide +kernel
theorem dX9_type_24 : decode cX9_type 24 = .ok (.if_icmp .ne 6, 3) := by decide +kernel
theorem dX9_type_27 : decode cX9_type 27 = .ok (.bipush (-3), 2) := by decide +kernel
theorem dX9_type_29 : decode cX9_type 29 = .ok (.ireturn, 1) := by decide +kernel
theorem dX9_type_30 : decode cX9_type 30 = .ok (.aload_n 0, 1) := by decide +kernel
theorem dX9_type_31 : decode cX9_type 31 = .ok (.getfield 35, 3) := by decide +kernel
theorem dX9_type_34 : decode cX9_type 34 = .ok (.aload_n 0, 1) := by decide +kernel
theorem dX9_type_35 : decode cX9_type 35 = .ok (.getfield 74, 3) := by decide +kernel
theorem dX9_type_38 : decode cX9_type 38 = .ok (.iload_n 1, 1) := by decide +kernel
theorem dX9_type_39 : decode cX9_type 39 = .ok (.iastore, 1) := by decide +kernel
theorem dX9_type_40 : decode cX9_type 40 = .ok (.aload_n 0, 1) := by decide +kernel
theorem dX9_type_41 : decode cX9_type 41 = .ok (.dup, 1) := by decide +kernel
theorem dX9_type_42 : decode cX9_type 42 = .ok (.getfield 74, 3) := by decide +kernel
theorem dX9_type_45 : decode cX9_type 45 = .ok (.iconst 1, 1) := by decide +kernel
theorem dX9_type_46 : decode cX9_type 46 = .ok (.iadd, 1) := by decide +kernel
theorem dX9_type_47 : decode cX9_type 47 = .ok (.putfield 74, 3) := by decide +kernel
theorem dX9_type_50 : decode cX9_type 50 = .ok (.aload_n 0, 1) := by decide +kernel
theorem dX9_type_51 : decode cX9_type 51 = .ok (.getfield 74, 3) := by decide +kernel
theorem dX9_type_54 : decode cX9_type 54 = .ok (.ireturn, 1) := by decide +kernel
theorem dX9_clear_0 : decode cX9_clear 0 = .ok (.aload_n 0, 1) := by decide +kernel
theorem dX9_clear_1 : decode cX9_clear 1 = .ok (.iconst 0, 1) := by decide +kernel
theorem dX9_clear_2 : decode cX9_clear 2 = .ok (.putfield 63, 3) := by decide +kernel
theorem dX9_clear_5 : decode cX9_clear 5 = .ok (.aload_n 0, 1) := by decide +kernel
theorem dX9_clear_6 : decode cX9_clear 6 = .ok (.getfield 74, 3) := by decide +kernel
theorem dX9_clear_9 : decode cX9_clear 9 = .ok (.istore_n 1, 1) := by decide +kernel
theorem dX9_clear_10 : decode cX9_clear 10 = .ok (.aload_n 0, 1) := by decide +kernel
theorem dX9_clear_11 : decode cX9_clear 11 = .ok (.iconst 0, 1) := by decide +kernel
theorem dX9_clear_12 : decode cX9_clear 12 = .ok (.putfield 74, 3) := by decide +kernel
theorem dX9_clear_15 : decode cX9_clear 15 = .ok (.iload_n 1, 1) := by decide +kernel
theorem dX9_clear_16 : decode cX9_clear 16 = .ok (.ireturn, 1) := by decide +kernel
theorem dX9_here_0 : decode cX9_here 0 = .ok (.aload_n 0, 1) := by decide +kernel
theorem dX9_here_1 : decode cX9_here 1 = .ok (.getfield 77, 3) := by decide +kernel
theorem dX9_here_4 : decode cX9_here 4 = .ok (.aload_n 0, 1) := by decide +kernel
theorem dX9_here_5 : decode cX9_here 5 = .ok (.getfield 74, 3) := by decide +kernel
theorem dX9_here_8 : decode cX9_here 8 = .ok (.if_icmp .ge 30, 3) := by decide +kernel
theorem dX9_here_11 : decode cX9_here 11 = .ok (.aload_n 0, 1) := by decide +kernel
theorem dX9_here_12 : decode cX9_here 12 = .ok (.getfield 35, 3) := by decide +kernel
theorem dX9_here_15 : decode cX9_here 15 = .ok (.aload_n 0, 1) := by decide +kernel
theorem dX9_here_16 : decode cX9_here 16 = .ok (.getfield 77, 3) := by decide +kernel
theorem dX9_here_19 : decode cX9_here 19 = .ok (.iaload, 1) := by decide +kernel
theorem dX9_here_20 : decode cX9_here 20 = .ok (.bipush 32, 2) := by decide +kernel
theorem dX9_here_22 : decode cX9_here 22 = .ok (.if_icmp .ne 16, 3) := by decide +kernel
theorem dX9_here_25 : decode cX9_here 25 = .ok (.aload_n 0, 1) := by decide +kernel
theorem dX9_here_26 : decode cX9_here 26 = .ok (.dup, 1) := by decide +kernel
theorem dX9_here_27 : decode cX9_here 27 = .ok (.getfield 77, 3) := by decide +kernel
theorem dX9_here_30 : decode cX9_here 30 = .ok (.iconst 1, 1) := by decide +kernel
theorem dX9_here_31 : decode cX9_here 31 = .ok (.iadd, 1) := by decide +kernel
theorem dX9_here_32 : decode cX9_here 32 = .ok (.putfield 77, 3) := by decide +kernel
theorem dX9_here_35 : decode cX9_here 35 = .ok (.goto (-35), 3) := by decide +kernel
theorem dX9_here_38 : decode cX9_here 38 = .ok (.aload_n 0, 1) := by decide +kernel
theorem dX9_here_39 : decode cX9_here 39 = .ok (.getfield 77, 3) := by decide +kernel
theorem dX9_here_42 : decode cX9_here 42 = .ok (.aload_n 0, 1) := by decide +kernel
theorem dX9_here_43 : decode cX9_here 43 = .ok (.getfield 74, 3) := by decide +kernel
theorem dX9_here_46 : decode cX9_here 46 = .ok (.if_icmp .ge 15, 3) := by decide +kernel
theorem dX9_here_49 : decode cX9_here 49 = .ok (.aload_n 0, 1) := by decide +kernel
theorem dX9_here_50 : decode cX9_here 50 = .ok (.getfield 35, 3) := by decide +kernel
theorem dX9_here_53 : decode cX9_here 53 = .ok (.aload_n 0, 1) := by decide +kernel
theorem dX9_here_54 : decode cX9_here 54 = .ok (.getfield 77, 3) := by decide +kernel
theorem dX9_here_57 : decode cX9_here 57 = .ok (.iaload, 1) := by decide +kernel
theorem dX9_here_58 : decode cX9_here 58 = .ok (.goto 4, 3) := by decide +kernel
theorem dX9_here_61 : decode cX9_here 61 = .ok (.iconst (-1), 1) := by decide +kernel
theorem dX9_here_62 : decode cX9_here 62 = .ok (.ireturn, 1) := by decide +kernel
theorem dX9_tenseOf_0 : decode cX9_tenseOf 0 = .ok (.iload_n 0, 1) := by decide +kernel
theorem dX9_tenseOf_1 : decode cX9_tenseOf 1 = .ok (.tableswitch 113 100 119 #[95, 113, 107, 105, 97, 113, 113, 113, 113, 113, 113, 113, 101, 113, 113, 113, 113, 110, 103, 99], 95) := by decide +kernel
theorem dX9_tenseOf_96 : decode cX9_tenseOf 96 = .ok (.iconst 0, 1) := by decide +kernel
theorem dX9_tenseOf_97 : decode cX9_tenseOf 97 = .ok (.ireturn, 1) := by decide +kernel
theorem dX9_tenseOf_98 : decode cX9_tenseOf 98 = .ok (.iconst 1, 1) := by decide +kernel
theorem dX9_tenseOf_99 : decode cX9_tenseOf 99 = .ok (.ireturn, 1) := by decide +kernel
theorem dX9_tenseOf_100 : decode cX9_tenseOf 100 = .ok (.iconst 2, 1) := by decide +kernel
theorem dX9_tenseOf_101 : decode cX9_tenseOf 101 = .ok (.ireturn, 1) := by decide +kernel
theorem dX9_tenseOf_102 : decode cX9_tenseOf 102 = .ok (.iconst 3, 1) := by decide +kernel
theorem dX9_tenseOf_103 : decode cX9_tenseOf 103 = .ok (.ireturn, 1) := by decide +kernel
theorem dX9_tenseOf_104 : decode cX9_tenseOf 104 = .ok (.iconst 4, 1) := by decide +kernel
theorem dX9_tenseOf_105 : decode cX9_tenseOf 105 = .ok (.ireturn, 1) := by decide +kernel
theorem dX9_tenseOf_106 : decode cX9_tenseOf 106 = .ok (.iconst 5, 1) := by decide +kernel
theorem dX9_tenseOf_107 : decode cX9_tenseOf 107 = .ok (.ireturn, 1) := by decide +kernel
theorem dX9_tenseOf_108 : decode cX9_tenseOf 108 = .ok (.bipush 6, 2) := by decide +kernel
theorem dX9_tenseOf_110 : decode cX9_tenseOf 110 = .ok (.ireturn, 1) := by decide +kernel
theorem dX9_tenseOf_111 : decode cX9_tenseOf 111 = .ok (.bipush 7, 2) := by decide +kernel
theorem dX9_tenseOf_113 : decode cX9_tenseOf 113 = .ok (.ireturn, 1) := by decide +kernel
theorem dX9_tenseOf_114 : decode cX9_tenseOf 114 = .ok (.bipush (-9), 2) := by decide +kernel
theorem dX9_tenseOf_116 : decode cX9_tenseOf 116 = .ok (.ireturn, 1) := by decide +kernel
theorem dX9_linkOf_0 : decode cX9_linkOf 0 = .ok (.iload_n 0, 1) := by decide +kernel
theorem dX9_linkOf_1 : decode cX9_linkOf 1 = .ok (.bipush 43, 2) := by decide +kernel
theorem dX9_linkOf_3 : decode cX9_linkOf 3 = .ok (.if_icmp .ne 7, 3) := by decide +kernel
theorem dX9_linkOf_6 : decode cX9_linkOf 6 = .ok (.iconst 0, 1) := by decide +kernel
theorem dX9_linkOf_7 : decode cX9_linkOf 7 = .ok (.goto 35, 3) := by decide +kernel
theorem dX9_linkOf_10 : decode cX9_linkOf 10 = .ok (.iload_n 0, 1) := by decide +kernel
theorem dX9_linkOf_11 : decode cX9_linkOf 11 = .ok (.bipush 61, 2) := by decide +kernel
theorem dX9_linkOf_13 : decode cX9_linkOf 13 = .ok (.if_icmp .ne 7, 3) := by decide +kernel
theorem dX9_linkOf_16 : decode cX9_linkOf 16 = .ok (.iconst 1, 1) := by decide +kernel
theorem dX9_linkOf_17 : decode cX9_linkOf 17 = .ok (.goto 25, 3) := by decide +kernel
theorem dX9_linkOf_20 : decode cX9_linkOf 20 = .ok (.iload_n 0, 1) := by decide +kernel
theorem dX9_linkOf_21 : decode cX9_linkOf 21 = .ok (.bipush 45, 2) := by decide +kernel
theorem dX9_linkOf_23 : decode cX9_linkOf 23 = .ok (.if_icmp .ne 7, 3) := by decide +kernel
theorem dX9_linkOf_26 : decode cX9_linkOf 26 = .ok (.iconst 2, 1) := by decide +kernel
theorem dX9_linkOf_27 : decode cX9_linkOf 27 = .ok (.goto 15, 3) := by decide +kernel
theorem dX9_linkOf_30 : decode cX9_linkOf 30 = .ok (.iload_n 0, 1) := by decide +kernel
theorem dX9_linkOf_31 : decode cX9_linkOf 31 = .ok (.bipush 47, 2) := by decide +kernel
theorem dX9_linkOf_33 : decode cX9_linkOf 33 = .ok (.if_icmp .ne 7, 3) := by decide +kernel
theorem dX9_linkOf_36 : decode cX9_linkOf 36 = .ok (.iconst 3, 1) := by decide +kernel
theorem dX9_linkOf_37 : decode cX9_linkOf 37 = .ok (.goto 5, 3) := by decide +kernel
theorem dX9_linkOf_40 : decode cX9_linkOf 40 = .ok (.bipush (-9), 2) := by decide +kernel
theorem dX9_linkOf_42 : decode cX9_linkOf 42 = .ok (.ireturn, 1) := by decide +kernel
theorem dX9_timeOf_0 : decode cX9_timeOf 0 = .ok (.iload_n 1, 1) := by decide +kernel
theorem dX9_timeOf_1 : decode cX9_timeOf 1 = .ok (.bipush 78, 2) := by decide +kernel
theorem dX9_timeOf_3 : decode cX9_timeOf 3 = .ok (.if_icmp .ne 7, 3) := by decide +kernel
theorem dX9_timeOf_6 : decode cX9_timeOf 6 = .ok (.iconst 0, 1) := by decide +kernel
theorem dX9_timeOf_7 : decode cX9_timeOf 7 = .ok (.goto 36, 3) := by decide +kernel
theorem dX9_timeOf_10 : decode cX9_timeOf 10 = .ok (.iload_n 1, 1) := by decide +kernel
theorem dX9_timeOf_11 : decode cX9_timeOf 11 = .ok (.bipush 65, 2) := by decide +kernel
theorem dX9_timeOf_13 : decode cX9_timeOf 13 = .ok (.bipush 65, 2) := by decide +kernel
theorem dX9_timeOf_15 : decode cX9_timeOf 15 = .ok (.aload_n 0, 1) := by decide +kernel
theorem dX9_timeOf_16 : decode cX9_timeOf 16 = .ok (.getfield 13, 3) := by decide +kernel
theorem dX9_timeOf_19 : decode cX9_timeOf 19 = .ok (.iconst 0, 1) := by decide +kernel
theorem dX9_timeOf_20 : decode cX9_timeOf 20 = .ok (.iaload, 1) := by decide +kernel
theorem dX9_timeOf_21 : decode cX9_timeOf 21 = .ok (.iadd, 1) := by decide +kernel
theorem dX9_timeOf_22 : decode cX9_timeOf 22 = .ok (.iconst 1, 1) := by decide +kernel
theorem dX9_timeOf_23 : decode cX9_timeOf 23 = .ok (.isub, 1) := by decide +kernel
theorem dX9_timeOf_24 : decode cX9_timeOf 24 = .ok (.invokestatic 66, 3) := by decide +kernel
theorem dX9_timeOf_27 : decode cX9_timeOf 27 = .ok (.ifCond .eq 14, 3) := by decide +kernel
theorem dX9_timeOf_30 : decode cX9_timeOf 30 = .ok (.iconst 2, 1) := by decide +kernel
theorem dX9_timeOf_31 : decode cX9_timeOf 31 = .ok (.iconst 2, 1) := by decide +kernel
theorem dX9_timeOf_32 : decode cX9_timeOf 32 = .ok (.iload_n 1, 1) := by decide +kernel
theorem dX9_timeOf_33 : decode cX9_timeOf 33 = .ok (.bipush 65, 2) := by decide +kernel
theorem dX9_timeOf_35 : decode cX9_timeOf 35 = .ok (.isub, 1) := by decide +kernel
theorem dX9_timeOf_36 : decode cX9_timeOf 36 = .ok (.imul, 1) := by decide +kernel
theorem dX9_timeOf_37 : decode cX9_timeOf 37 = .ok (.iadd, 1) := by decide +kernel
theorem dX9_timeOf_38 : decode cX9_timeOf 38 = .ok (.goto 5, 3) := by decide +kernel
theorem dX9_timeOf_41 : decode cX9_timeOf 41 = .ok (.bipush (-9), 2) := by decide +kernel
theorem dX9_timeOf_43 : decode cX9_timeOf 43 = .ok (.ireturn, 1) := by decide +kernel
theorem dX9_adds_0 : decode cX9_adds 0 = .ok (.bipush 18, 2) := by decide +kernel
theorem dX9_adds_2 : decode cX9_adds 2 = .ok (.iconst 4, 1) := by decide +kernel
theorem dX9_adds_3 : decode cX9_adds 3 = .ok (.aload_n 0, 1) := by decide +kernel
theorem dX9_adds_4 : decode cX9_adds 4 = .ok (.getfield 13, 3) := by decide +kernel
theorem dX9_adds_7 : decode cX9_adds 7 = .ok (.iconst 1, 1) := by decide +kernel
theorem dX9_adds_8 : decode cX9_adds 8 = .ok (.iaload, 1) := by decide +kernel
theorem dX9_adds_9 : decode cX9_adds 9 = .ok (.imul, 1) := by decide +kernel
theorem dX9_adds_10 : decode cX9_adds 10 = .ok (.iadd, 1) := by decide +kernel
theorem dX9_adds_11 : decode cX9_adds 11 = .ok (.istore 5, 2) := by decide +kernel
theorem dX9_adds_13 : decode cX9_adds 13 = .ok (.aload_n 0, 1) := by decide +kernel
theorem dX9_adds_14 : decode cX9_adds 14 = .ok (.getfield 13, 3) := by decide +kernel
theorem dX9_adds_17 : decode cX9_adds 17 = .ok (.iload 5, 2) := by decide +kernel
theorem dX9_adds_19 : decode cX9_adds 19 = .ok (.iload_n 1, 1) := by decide +kernel
theorem dX9_adds_20 : decode cX9_adds 20 = .ok (.iastore, 1) := by decide +kernel
theorem dX9_adds_21 : decode cX9_adds 21 = .ok (.aload_n 0, 1) := by decide +kernel
theorem dX9_adds_22 : decode cX9_adds 22 = .ok (.getfield 13, 3) := by decide +kernel
theorem dX9_adds_25 : decode cX9_adds 25 = .ok (.iload 5, 2) := by decide +kernel
theorem dX9_adds_27 : decode cX9_adds 27 = .ok (.iconst 1, 1) := by decide +kernel
theorem dX9_adds_28 : decode cX9_adds 28 = .ok (.iadd, 1) := by decide +kernel
theorem dX9_adds_29 : decode cX9_adds 29 = .ok (.iload_n 2, 1) := by decide +kernel
theorem dX9_adds_30 : decode cX9_adds 30 = .ok (.iastore, 1) := by decide +kernel
theorem dX9_adds_31 : decode cX9_adds 31 = .ok (.aload_n 0, 1) := by decide +kernel
theorem dX9_adds_32 : decode cX9_adds 32 = .ok (.getfield 13, 3) := by decide +kernel
theorem dX9_adds_35 : decode cX9_adds 35 = .ok (.iload 5, 2) := by decide +kernel
theorem dX9_adds_37 : decode cX9_adds 37 = .ok (.iconst 2, 1) := by decide +kernel
theorem dX9_adds_38 : decode cX9_adds 38 = .ok (.iadd, 1) := by decide +kernel
theorem dX9_adds_39 : decode cX9_adds 39 = .ok (.iload_n 3, 1) := by decide +kernel
theorem dX9_adds_40 : decode cX9_adds 40 = .ok (.iastore, 1) := by decide +kernel
theorem dX9_adds_41 : decode cX9_adds 41 = .ok (.aload_n 0, 1) := by decide +kernel
theorem dX9_adds_42 : decode cX9_adds 42 = .ok (.getfield 13, 3) := by decide +kernel
theorem dX9_adds_45 : decode cX9_adds 45 = .ok (.iload 5, 2) := by decide +kernel
theorem dX9_adds_47 : decode cX9_adds 47 = .ok (.iconst 3, 1) := by decide +kernel
theorem dX9_adds_48 : decode cX9_adds 48 = .ok (.iadd, 1) := by decide +kernel
theorem dX9_adds_49 : decode cX9_adds 49 = .ok (.iload 4, 2) := by decide +kernel
theorem dX9_adds_51 : decode cX9_adds 51 = .ok (.iastore, 1) := by decide +kernel
theorem dX9_adds_52 : decode cX9_adds 52 = .ok (.aload_n 0, 1) := by decide +kernel
theorem dX9_adds_53 : decode cX9_adds 53 = .ok (.getfield 13, 3) := by decide +kernel
theorem dX9_adds_56 : decode cX9_adds 56 = .ok (.iconst 1, 1) := by decide +kernel
theorem dX9_adds_57 : decode cX9_adds 57 = .ok (.dup2, 1) := by decide +kernel
theorem dX9_adds_58 : decode cX9_adds 58 = .ok (.iaload, 1) := by decide +kernel
theorem dX9_adds_59 : decode cX9_adds 59 = .ok (.iconst 1, 1) := by decide +kernel
theorem dX9_adds_60 : decode cX9_adds 60 = .ok (.iadd, 1) := by decide +kernel
theorem dX9_adds_61 : decode cX9_adds 61 = .ok (.iastore, 1) := by decide +kernel
theorem dX9_adds_62 : decode cX9_adds 62 = .ok (.return_, 1) := by decide +kernel
theorem dX9_readsSaying_0 : decode cX9_readsSaying 0 = .ok (.aload_n 0, 1) := by decide +kernel
theorem dX9_readsSaying_1 : decode cX9_readsSaying 1 = .ok (.aload_n 0, 1) := by decide +kernel
theorem dX9_readsSaying_2 : decode cX9_readsSaying 2 = .ok (.invokevirtual 80, 3) := by decide +kernel
theorem dX9_readsSaying_5 : decode cX9_readsSaying 5 = .ok (.invokevirtual 84, 3) := by decide +kernel
theorem dX9_readsSaying_8 : decode cX9_readsSaying 8 = .ok (.istore_n 1, 1) := by decide +kernel
theorem dX9_readsSaying_9 : decode cX9_readsSaying 9 = .ok (.iload_n 1, 1) := by decide +kernel
theorem dX9_readsSaying_10 : decode cX9_readsSaying 10 = .ok (.bipush (-9), 2) := by decide +kernel
theorem dX9_readsSaying_12 : decode cX9_readsSaying 12 = .ok (.if_icmp .eq 21, 3) := by decide +kernel
theorem dX9_readsSaying_15 : decode cX9_readsSaying 15 = .ok (.aload_n 0, 1) := by decide +kernel
theorem dX9_readsSaying_16 : decode cX9_readsSaying 16 = .ok (.getfield 13, 3) := by decide +kernel
theorem dX9_readsSaying_19 : decode cX9_readsSaying 19 = .ok (.iconst 1, 1) := by decide +kernel
theorem dX9_readsSaying_20 : decode cX9_readsSaying 20 = .ok (.iaload, 1) := by decide +kernel
theorem dX9_readsSaying_21 : decode cX9_readsSaying 21 = .ok (.aload_n 0, 1) := by decide +kernel
theorem dX9_readsSaying_22 : decode cX9_readsSaying 22 = .ok (.getfield 13, 3) := by decide +kernel
theorem dX9_readsSaying_25 : decode cX9_readsSaying 25 = .ok (.iconst 0, 1) := by decide +kernel
theorem dX9_readsSaying_26 : decode cX9_readsSaying 26 = .ok (.iaload, 1) := by decide +kernel
theorem dX9_readsSaying_27 : decode cX9_readsSaying 27 = .ok (.isub, 1) := by decide +kernel
theorem dX9_readsSaying_28 : decode cX9_readsSaying 28 = .ok (.bipush 6, 2) := by decide +kernel
theorem dX9_readsSaying_30 : decode cX9_readsSaying 30 = .ok (.if_icmp .ne 5, 3) := by decide +kernel
theorem dX9_readsSaying_33 : decode cX9_readsSaying 33 = .ok (.iconst 0, 1) := by decide +kernel
theorem dX9_readsSaying_34 : decode cX9_readsSaying 34 = .ok (.ireturn, 1) := by decide +kernel
theorem dX9_readsSaying_35 : decode cX9_readsSaying 35 = .ok (.aload_n 0, 1) := by decide +kernel
theorem dX9_readsSaying_36 : decode cX9_readsSaying 36 = .ok (.dup, 1) := by decide +kernel
theorem dX9_readsSaying_37 : decode cX9_readsSaying 37 = .ok (.getfield 77, 3) := by decide +kernel
theorem dX9_readsSaying_40 : decode cX9_readsSaying 40 = .ok (.iconst 1, 1) := by decide +kernel
theorem dX9_readsSaying_41 : decode cX9_readsSaying 41 = .ok (.iadd, 1) := by decide +kernel
theorem dX9_readsSaying_42 : decode cX9_readsSaying 42 = .ok (.putfield 77, 3) := by decide +kernel
theorem dX9_readsSaying_45 : decode cX9_readsSaying 45 = .ok (.aload_n 0, 1) := by decide +kernel
theorem dX9_readsSaying_46 : decode cX9_readsSaying 46 = .ok (.invokevirtual 80, 3) := by decide +kernel
theorem dX9_readsSaying_49 : decode cX9_readsSaying 49 = .ok (.bipush 60, 2) := by decide +kernel
theorem dX9_readsSaying_51 : decode cX9_readsSaying 51 = .ok (.if_icmp .ne 7, 3) := by decide +kernel
theorem dX9_readsSaying_54 : decode cX9_readsSaying 54 = .ok (.iconst 0, 1) := by decide +kernel
theorem dX9_readsSaying_55 : decode cX9_readsSaying 55 = .ok (.goto 18, 3) := by decide +kernel
theorem dX9_readsSaying_58 : decode cX9_readsSaying 58 = .ok (.aload_n 0, 1) := by decide +kernel
theorem dX9_readsSaying_59 : decode cX9_readsSaying 59 = .ok (.invokevirtual 80, 3) := by decide +kernel
theorem dX9_readsSaying_62 : decode cX9_readsSaying 62 = .ok (.bipush 61, 2) := by decide +kernel
theorem dX9_readsSaying_64 : decode cX9_readsSaying 64 = .ok (.if_icmp .ne 7, 3) := by decide +kernel
theorem dX9_readsSaying_67 : decode cX9_readsSaying 67 = .ok (.iconst 1, 1) := by decide +kernel
theorem dX9_readsSaying_68 : decode cX9_readsSaying 68 = .ok (.goto 5, 3) := by decide +kernel
theorem dX9_readsSaying_71 : decode cX9_readsSaying 71 = .ok (.bipush (-9), 2) := by decide +kernel
theorem dX9_readsSaying_73 : decode cX9_readsSaying 73 = .ok (.istore_n 2, 1) := by decide +kernel
theorem dX9_readsSaying_74 : decode cX9_readsSaying 74 = .ok (.iload_n 2, 1) := by decide +kernel
theorem dX9_readsSaying_75 : decode cX9_readsSaying 75 = .ok (.bipush (-9), 2) := by decide +kernel
theorem dX9_readsSaying_77 : decode cX9_readsSaying 77 = .ok (.if_icmp .ne 5, 3) := by decide +kernel
theorem dX9_readsSaying_80 : decode cX9_readsSaying 80 = .ok (.iconst 0, 1) := by decide +kernel
theorem dX9_readsSaying_81 : decode cX9_readsSaying 81 = .ok (.ireturn, 1) := by decide +kernel
theorem dX9_readsSaying_82 : decode cX9_readsSaying 82 = .ok (.aload_n 0, 1) := by decide +kernel
theorem dX9_readsSaying_83 : decode cX9_readsSaying 83 = .ok (.dup, 1) := by decide +kernel
theorem dX9_readsSaying_84 : decode cX9_readsSaying 84 = .ok (.getfield 77, 3) := by decide +kernel
theorem dX9_readsSaying_87 : decode cX9_readsSaying 87 = .ok (.iconst 1, 1) := by decide +kernel
theorem dX9_readsSaying_88 : decode cX9_readsSaying 88 = .ok (.iadd, 1) := by decide +kernel
theorem dX9_readsSaying_89 : decode cX9_readsSaying 89 = .ok (.putfield 77, 3) := by decide +kernel
theorem dX9_readsSaying_92 : decode cX9_readsSaying 92 = .ok (.aload_n 0, 1) := by decide +kernel
theorem dX9_readsSaying_93 : decode cX9_readsSaying 93 = .ok (.aload_n 0, 1) := by decide +kernel
theorem dX9_readsSaying_94 : decode cX9_readsSaying 94 = .ok (.invokevirtual 80, 3) := by decide +kernel
theorem dX9_readsSaying_97 : decode cX9_readsSaying 97 = .ok (.invokevirtual 84, 3) := by decide +kernel
theorem dX9_readsSaying_100 : decode cX9_readsSaying 100 = .ok (.istore_n 3, 1) := by decide +kernel
theorem dX9_readsSaying_101 : decode cX9_readsSaying 101 = .ok (.iload_n 3, 1) := by decide +kernel
theorem dX9_readsSaying_102 : decode cX9_readsSaying 102 = .ok (.bipush (-9), 2) := by decide +kernel
theorem dX9_readsSaying_104 : decode cX9_readsSaying 104 = .ok (.if_icmp .eq 8, 3) := by decide +kernel
theorem dX9_readsSaying_107 : decode cX9_readsSaying 107 = .ok (.iload_n 3, 1) := by decide +kernel
theorem dX9_readsSaying_108 : decode cX9_readsSaying 108 = .ok (.iload_n 1, 1) := by decide +kernel
theorem dX9_readsSaying_109 : decode cX9_readsSaying 109 = .ok (.if_icmp .ne 5, 3) := by decide +kernel
theorem dX9_readsSaying_112 : decode cX9_readsSaying 112 = .ok (.iconst 0, 1) := by decide +kernel
theorem dX9_readsSaying_113 : decode cX9_readsSaying 113 = .ok (.ireturn, 1) := by decide +kernel
theorem dX9_readsSaying_114 : decode cX9_readsSaying 114 = .ok (.aload_n 0, 1) := by decide +kernel
theorem dX9_readsSaying_115 : decode cX9_readsSaying 115 = .ok (.dup, 1) := by decide +kernel
theorem dX9_readsSaying_116 : decode cX9_readsSaying 116 = .ok (.getfield 77, 3) := by decide +kernel
theorem dX9_readsSaying_119 : decode cX9_readsSaying 119 = .ok (.iconst 1, 1) := by decide +kernel
theorem dX9_readsSaying_120 : decode cX9_readsSaying 120 = .ok (.iadd, 1) := by decide +kernel
theorem dX9_readsSaying_121 : decode cX9_readsSaying 121 = .ok (.putfield 77, 3) := by decide +kernel
theorem dX9_readsSaying_124 : decode cX9_readsSaying 124 = .ok (.aload_n 0, 1) := by decide +kernel
theorem dX9_readsSaying_125 : decode cX9_readsSaying 125 = .ok (.bipush (-9), 2) := by decide +kernel
theorem dX9_readsSaying_127 : decode cX9_readsSaying 127 = .ok (.iload_n 1, 1) := by decide +kernel
theorem dX9_readsSaying_128 : decode cX9_readsSaying 128 = .ok (.iload_n 2, 1) := by decide +kernel
theorem dX9_readsSaying_129 : decode cX9_readsSaying 129 = .ok (.iload_n 3, 1) := by decide +kernel
theorem dX9_readsSaying_130 : decode cX9_readsSaying 130 = .ok (.invokevirtual 88, 3) := by decide +kernel
theorem dX9_readsSaying_133 : decode cX9_readsSaying 133 = .ok (.iconst 1, 1) := by decide +kernel
theorem dX9_readsSaying_134 : decode cX9_readsSaying 134 = .ok (.ireturn, 1) := by decide +kernel
theorem dX9_readsClause_0 : decode cX9_readsClause 0 = .ok (.aload_n 0, 1) := by decide +kernel
theorem dX9_readsClause_1 : decode cX9_readsClause 1 = .ok (.getfield 13, 3) := by decide +kernel
theorem dX9_readsClause_4 : decode cX9_readsClause 4 = .ok (.iconst 0, 1) := by decide +kernel
theorem dX9_readsClause_5 : decode cX9_readsClause 5 = .ok (.iaload, 1) := by decide +kernel
theorem dX9_readsClause_6 : decode cX9_readsClause 6 = .ok (.istore_n 1, 1) := by decide +kernel
theorem dX9_readsClause_7 : decode cX9_readsClause 7 = .ok (.bipush (-9), 2) := by decide +kernel
theorem dX9_readsClause_9 : decode cX9_readsClause 9 = .ok (.istore_n 2, 1) := by decide +kernel
theorem dX9_readsClause_10 : decode cX9_readsClause 10 = .ok (.iload_n 1, 1) := by decide +kernel
theorem dX9_readsClause_11 : decode cX9_readsClause 11 = .ok (.ifCond .le 35, 3) := by decide +kernel
theorem dX9_readsClause_14 : decode cX9_readsClause 14 = .ok (.aload_n 0, 1) := by decide +kernel
theorem dX9_readsClause_15 : decode cX9_readsClause 15 = .ok (.invokevirtual 80, 3) := by decide +kernel
theorem dX9_readsClause_18 : decode cX9_readsClause 18 = .ok (.invokestatic 92, 3) := by decide +kernel
theorem dX9_readsClause_21 : decode cX9_readsClause 21 = .ok (.istore_n 2, 1) := by decide +kernel
theorem dX9_readsClause_22 : decode cX9_readsClause 22 = .ok (.iload_n 2, 1) := by decide +kernel
theorem dX9_readsClause_23 : decode cX9_readsClause 23 = .ok (.bipush (-9), 2) := by decide +kernel
theorem dX9_readsClause_25 : decode cX9_readsClause 25 = .ok (.if_icmp .eq 9, 3) := by decide +kernel
theorem dX9_readsClause_28 : decode cX9_readsClause 28 = .ok (.iload_n 1, 1) := by decide +kernel
theorem dX9_readsClause_29 : decode cX9_readsClause 29 = .ok (.bipush 8, 2) := by decide +kernel
theorem dX9_readsClause_31 : decode cX9_readsClause 31 = .ok (.if_icmp .ne 5, 3) := by decide +kernel
theorem dX9_readsClause_34 : decode cX9_readsClause 34 = .ok (.iconst 0, 1) := by decide +kernel
theorem dX9_readsClause_35 : decode cX9_readsClause 35 = .ok (.ireturn, 1) := by decide +kernel
theorem dX9_readsClause_36 : decode cX9_readsClause 36 = .ok (.aload_n 0, 1) := by decide +kernel
theorem dX9_readsClause_37 : decode cX9_readsClause 37 = .ok (.dup, 1) := by decide +kernel
theorem dX9_readsClause_38 : decode cX9_readsClause 38 = .ok (.getfield 77, 3) := by decide +kernel
theorem dX9_readsClause_41 : decode cX9_readsClause 41 = .ok (.iconst 1, 1) := by decide +kernel
theorem dX9_readsClause_42 : decode cX9_readsClause 42 = .ok (.iadd, 1) := by decide +kernel
theorem dX9_readsClause_43 : decode cX9_readsClause 43 = .ok (.putfield 77, 3) := by decide +kernel
theorem dX9_readsClause_46 : decode cX9_readsClause 46 = .ok (.aload_n 0, 1) := by decide +kernel
theorem dX9_readsClause_47 : decode cX9_readsClause 47 = .ok (.invokevirtual 80, 3) := by decide +kernel
theorem dX9_readsClause_50 : decode cX9_readsClause 50 = .ok (.invokestatic 95, 3) := by decide +kernel
theorem dX9_readsClause_53 : decode cX9_readsClause 53 = .ok (.istore_n 3, 1) := by decide +kernel
theorem dX9_readsClause_54 : decode cX9_readsClause 54 = .ok (.iload_n 3, 1) := by decide +kernel
theorem dX9_readsClause_55 : decode cX9_readsClause 55 = .ok (.bipush (-9), 2) := by decide +kernel
theorem dX9_readsClause_57 : decode cX9_readsClause 57 = .ok (.if_icmp .ne 5, 3) := by decide +kernel
theorem dX9_readsClause_60 : decode cX9_readsClause 60 = .ok (.iconst 0, 1) := by decide +kernel
theorem dX9_readsClause_61 : decode cX9_readsClause 61 = .ok (.ireturn, 1) := by decide +kernel
theorem dX9_readsClause_62 : decode cX9_readsClause 62 = .ok (.aload_n 0, 1) := by decide +kernel
theorem dX9_readsClause_63 : decode cX9_readsClause 63 = .ok (.dup, 1) := by decide +kernel
theorem dX9_readsClause_64 : decode cX9_readsClause 64 = .ok (.getfield 77, 3) := by decide +kernel
theorem dX9_readsClause_67 : decode cX9_readsClause 67 = .ok (.iconst 1, 1) := by decide +kernel
theorem dX9_readsClause_68 : decode cX9_readsClause 68 = .ok (.iadd, 1) := by decide +kernel
theorem dX9_readsClause_69 : decode cX9_readsClause 69 = .ok (.putfield 77, 3) := by decide +kernel
theorem dX9_readsClause_72 : decode cX9_readsClause 72 = .ok (.aload_n 0, 1) := by decide +kernel
theorem dX9_readsClause_73 : decode cX9_readsClause 73 = .ok (.getfield 13, 3) := by decide +kernel
theorem dX9_readsClause_76 : decode cX9_readsClause 76 = .ok (.iconst 2, 1) := by decide +kernel
theorem dX9_readsClause_77 : decode cX9_readsClause 77 = .ok (.iconst 2, 1) := by decide +kernel
theorem dX9_readsClause_78 : decode cX9_readsClause 78 = .ok (.iload_n 1, 1) := by decide +kernel
theorem dX9_readsClause_79 : decode cX9_readsClause 79 = .ok (.imul, 1) := by decide +kernel
theorem dX9_readsClause_80 : decode cX9_readsClause 80 = .ok (.iadd, 1) := by decide +kernel
theorem dX9_readsClause_81 : decode cX9_readsClause 81 = .ok (.iload_n 3, 1) := by decide +kernel
theorem dX9_readsClause_82 : decode cX9_readsClause 82 = .ok (.iastore, 1) := by decide +kernel
theorem dX9_readsClause_83 : decode cX9_readsClause 83 = .ok (.aload_n 0, 1) := by decide +kernel
theorem dX9_readsClause_84 : decode cX9_readsClause 84 = .ok (.getfield 13, 3) := by decide +kernel
theorem dX9_readsClause_87 : decode cX9_readsClause 87 = .ok (.iconst 2, 1) := by decide +kernel
theorem dX9_readsClause_88 : decode cX9_readsClause 88 = .ok (.iconst 2, 1) := by decide +kernel
theorem dX9_readsClause_89 : decode cX9_readsClause 89 = .ok (.iload_n 1, 1) := by decide +kernel
theorem dX9_readsClause_90 : decode cX9_readsClause 90 = .ok (.imul, 1) := by decide +kernel
theorem dX9_readsClause_91 : decode cX9_readsClause 91 = .ok (.iadd, 1) := by decide +kernel
theorem dX9_readsClause_92 : decode cX9_readsClause 92 = .ok (.iconst 1, 1) := by decide +kernel
theorem dX9_readsClause_93 : decode cX9_readsClause 93 = .ok (.iadd, 1) := by decide +kernel
theorem dX9_readsClause_94 : decode cX9_readsClause 94 = .ok (.iload_n 2, 1) := by decide +kernel
theorem dX9_readsClause_95 : decode cX9_readsClause 95 = .ok (.iastore, 1) := by decide +kernel
theorem dX9_readsClause_96 : decode cX9_readsClause 96 = .ok (.aload_n 0, 1) := by decide +kernel
theorem dX9_readsClause_97 : decode cX9_readsClause 97 = .ok (.iload_n 1, 1) := by decide +kernel
theorem dX9_readsClause_98 : decode cX9_readsClause 98 = .ok (.bipush (-9), 2) := by decide +kernel
theorem dX9_readsClause_100 : decode cX9_readsClause 100 = .ok (.bipush (-9), 2) := by decide +kernel
theorem dX9_readsClause_102 : decode cX9_readsClause 102 = .ok (.bipush (-9), 2) := by decide +kernel
theorem dX9_readsClause_104 : decode cX9_readsClause 104 = .ok (.invokevirtual 88, 3) := by decide +kernel
theorem dX9_readsClause_107 : decode cX9_readsClause 107 = .ok (.aload_n 0, 1) := by decide +kernel
theorem dX9_readsClause_108 : decode cX9_readsClause 108 = .ok (.getfield 13, 3) := by decide +kernel
theorem dX9_readsClause_111 : decode cX9_readsClause 111 = .ok (.iconst 0, 1) := by decide +kernel
theorem dX9_readsClause_112 : decode cX9_readsClause 112 = .ok (.dup2, 1) := by decide +kernel
theorem dX9_readsClause_113 : decode cX9_readsClause 113 = .ok (.iaload, 1) := by decide +kernel
theorem dX9_readsClause_114 : decode cX9_readsClause 114 = .ok (.iconst 1, 1) := by decide +kernel
theorem dX9_readsClause_115 : decode cX9_readsClause 115 = .ok (.iadd, 1) := by decide +kernel
theorem dX9_readsClause_116 : decode cX9_readsClause 116 = .ok (.iastore, 1) := by decide +kernel
theorem dX9_readsClause_117 : decode cX9_readsClause 117 = .ok (.iconst 1, 1) := by decide +kernel
theorem dX9_readsClause_118 : decode cX9_readsClause 118 = .ok (.ireturn, 1) := by decide +kernel
theorem dX9_reads_0 : decode cX9_reads 0 = .ok (.aload_n 0, 1) := by decide +kernel
theorem dX9_reads_1 : decode cX9_reads 1 = .ok (.iconst 0, 1) := by decide +kernel
theorem dX9_reads_2 : decode cX9_reads 2 = .ok (.putfield 63, 3) := by decide +kernel
theorem dX9_reads_5 : decode cX9_reads 5 = .ok (.aload_n 0, 1) := by decide +kernel
theorem dX9_reads_6 : decode cX9_reads 6 = .ok (.getfield 13, 3) := by decide +kernel
theorem dX9_reads_9 : decode cX9_reads 9 = .ok (.iconst 0, 1) := by decide +kernel
theorem dX9_reads_10 : decode cX9_reads 10 = .ok (.iconst 0, 1) := by decide +kernel
theorem dX9_reads_11 : decode cX9_reads 11 = .ok (.iastore, 1) := by decide +kernel
theorem dX9_reads_12 : decode cX9_reads 12 = .ok (.aload_n 0, 1) := by decide +kernel
theorem dX9_reads_13 : decode cX9_reads 13 = .ok (.getfield 13, 3) := by decide +kernel
theorem dX9_reads_16 : decode cX9_reads 16 = .ok (.iconst 1, 1) := by decide +kernel
theorem dX9_reads_17 : decode cX9_reads 17 = .ok (.iconst 0, 1) := by decide +kernel
theorem dX9_reads_18 : decode cX9_reads 18 = .ok (.iastore, 1) := by decide +kernel
theorem dX9_reads_19 : decode cX9_reads 19 = .ok (.aload_n 0, 1) := by decide +kernel
theorem dX9_reads_20 : decode cX9_reads 20 = .ok (.iconst 0, 1) := by decide +kernel
theorem dX9_reads_21 : decode cX9_reads 21 = .ok (.putfield 77, 3) := by decide +kernel
theorem dX9_reads_24 : decode cX9_reads 24 = .ok (.iconst 0, 1) := by decide +kernel
theorem dX9_reads_25 : decode cX9_reads 25 = .ok (.istore_n 1, 1) := by decide +kernel
theorem dX9_reads_26 : decode cX9_reads 26 = .ok (.aload_n 0, 1) := by decide +kernel
theorem dX9_reads_27 : decode cX9_reads 27 = .ok (.invokevirtual 80, 3) := by decide +kernel
theorem dX9_reads_30 : decode cX9_reads 30 = .ok (.ifCond .lt 69, 3) := by decide +kernel
theorem dX9_reads_33 : decode cX9_reads 33 = .ok (.aload_n 0, 1) := by decide +kernel
theorem dX9_reads_34 : decode cX9_reads 34 = .ok (.invokevirtual 80, 3) := by decide +kernel
theorem dX9_reads_37 : decode cX9_reads 37 = .ok (.bipush 65, 2) := by decide +kernel
theorem dX9_reads_39 : decode cX9_reads 39 = .ok (.bipush 90, 2) := by decide +kernel
theorem dX9_reads_41 : decode cX9_reads 41 = .ok (.invokestatic 66, 3) := by decide +kernel
theorem dX9_reads_44 : decode cX9_reads 44 = .ok (.istore_n 2, 1) := by decide +kernel
theorem dX9_reads_45 : decode cX9_reads 45 = .ok (.iload_n 2, 1) := by decide +kernel
theorem dX9_reads_46 : decode cX9_reads 46 = .ok (.ifCond .eq 13, 3) := by decide +kernel
theorem dX9_reads_49 : decode cX9_reads 49 = .ok (.aload_n 0, 1) := by decide +kernel
theorem dX9_reads_50 : decode cX9_reads 50 = .ok (.invokevirtual 98, 3) := by decide +kernel
theorem dX9_reads_53 : decode cX9_reads 53 = .ok (.ifCond .eq 22, 3) := by decide +kernel
theorem dX9_reads_56 : decode cX9_reads 56 = .ok (.goto 10, 3) := by decide +kernel
theorem dX9_reads_59 : decode cX9_reads 59 = .ok (.aload_n 0, 1) := by decide +kernel
theorem dX9_reads_60 : decode cX9_reads 60 = .ok (.invokevirtual 102, 3) := by decide +kernel
theorem dX9_reads_63 : decode cX9_reads 63 = .ok (.ifCond .eq 12, 3) := by decide +kernel
theorem dX9_reads_66 : decode cX9_reads 66 = .ok (.aload_n 0, 1) := by decide +kernel
theorem dX9_reads_67 : decode cX9_reads 67 = .ok (.invokevirtual 80, 3) := by decide +kernel
theorem dX9_reads_70 : decode cX9_reads 70 = .ok (.bipush 59, 2) := by decide +kernel
theorem dX9_reads_72 : decode cX9_reads 72 = .ok (.if_icmp .eq 11, 3) := by decide +kernel
theorem dX9_reads_75 : decode cX9_reads 75 = .ok (.bipush (-10), 2) := by decide +kernel
theorem dX9_reads_77 : decode cX9_reads 77 = .ok (.aload_n 0, 1) := by decide +kernel
theorem dX9_reads_78 : decode cX9_reads 78 = .ok (.getfield 77, 3) := by decide +kernel
theorem dX9_reads_81 : decode cX9_reads 81 = .ok (.isub, 1) := by decide +kernel
theorem dX9_reads_82 : decode cX9_reads 82 = .ok (.ireturn, 1) := by decide +kernel
theorem dX9_reads_83 : decode cX9_reads 83 = .ok (.aload_n 0, 1) := by decide +kernel
theorem dX9_reads_84 : decode cX9_reads 84 = .ok (.dup, 1) := by decide +kernel
theorem dX9_reads_85 : decode cX9_reads 85 = .ok (.getfield 77, 3) := by decide +kernel
theorem dX9_reads_88 : decode cX9_reads 88 = .ok (.iconst 1, 1) := by decide +kernel
theorem dX9_reads_89 : decode cX9_reads 89 = .ok (.iadd, 1) := by decide +kernel
theorem dX9_reads_90 : decode cX9_reads 90 = .ok (.putfield 77, 3) := by decide +kernel
theorem dX9_reads_93 : decode cX9_reads 93 = .ok (.iinc 1 1, 3) := by decide +kernel
theorem dX9_reads_96 : decode cX9_reads 96 = .ok (.goto (-70), 3) := by decide +kernel
theorem dX9_reads_99 : decode cX9_reads 99 = .ok (.iconst 0, 1) := by decide +kernel
theorem dX9_reads_100 : decode cX9_reads 100 = .ok (.istore_n 2, 1) := by decide +kernel
theorem dX9_reads_101 : decode cX9_reads 101 = .ok (.iload_n 2, 1) := by decide +kernel
theorem dX9_reads_102 : decode cX9_reads 102 = .ok (.bipush 74, 2) := by decide +kernel
theorem dX9_reads_104 : decode cX9_reads 104 = .ok (.if_icmp .ge 21, 3) := by decide +kernel
theorem dX9_reads_107 : decode cX9_reads 107 = .ok (.aload_n 0, 1) := by decide +kernel
theorem dX9_reads_108 : decode cX9_reads 108 = .ok (.getfield 7, 3) := by decide +kernel
theorem dX9_reads_111 : decode cX9_reads 111 = .ok (.iload_n 2, 1) := by decide +kernel
theorem dX9_reads_112 : decode cX9_reads 112 = .ok (.aload_n 0, 1) := by decide +kernel
theorem dX9_reads_113 : decode cX9_reads 113 = .ok (.getfield 13, 3) := by decide +kernel
theorem dX9_reads_116 : decode cX9_reads 116 = .ok (.iload_n 2, 1) := by decide +kernel
theorem dX9_reads_117 : decode cX9_reads 117 = .ok (.iaload, 1) := by decide +kernel
theorem dX9_reads_118 : decode cX9_reads 118 = .ok (.iastore, 1) := by decide +kernel
theorem dX9_reads_119 : decode cX9_reads 119 = .ok (.iinc 2 1, 3) := by decide +kernel
theorem dX9_reads_122 : decode cX9_reads 122 = .ok (.goto (-21), 3) := by decide +kernel
theorem dX9_reads_125 : decode cX9_reads 125 = .ok (.aload_n 0, 1) := by decide +kernel
theorem dX9_reads_126 : decode cX9_reads 126 = .ok (.iconst 0, 1) := by decide +kernel
theorem dX9_reads_127 : decode cX9_reads 127 = .ok (.putfield 74, 3) := by decide +kernel
theorem dX9_reads_130 : decode cX9_reads 130 = .ok (.aload_n 0, 1) := by decide +kernel
theorem dX9_reads_131 : decode cX9_reads 131 = .ok (.iconst 0, 1) := by decide +kernel
theorem dX9_reads_132 : decode cX9_reads 132 = .ok (.putfield 105, 3) := by decide +kernel
theorem dX9_reads_135 : decode cX9_reads 135 = .ok (.aload_n 0, 1) := by decide +kernel
theorem dX9_reads_136 : decode cX9_reads 136 = .ok (.iconst 0, 1) := by decide +kernel
theorem dX9_reads_137 : decode cX9_reads 137 = .ok (.putfield 59, 3) := by decide +kernel
theorem dX9_reads_140 : decode cX9_reads 140 = .ok (.aload_n 0, 1) := by decide +kernel
theorem dX9_reads_141 : decode cX9_reads 141 = .ok (.getfield 22, 3) := by decide +kernel
theorem dX9_reads_144 : decode cX9_reads 144 = .ok (.iconst 0, 1) := by decide +kernel
theorem dX9_reads_145 : decode cX9_reads 145 = .ok (.iconst 0, 1) := by decide +kernel
theorem dX9_reads_146 : decode cX9_reads 146 = .ok (.bastore, 1) := by decide +kernel
theorem dX9_reads_147 : decode cX9_reads 147 = .ok (.aload_n 0, 1) := by decide +kernel
theorem dX9_reads_148 : decode cX9_reads 148 = .ok (.getfield 22, 3) := by decide +kernel
theorem dX9_reads_151 : decode cX9_reads 151 = .ok (.iconst 1, 1) := by decide +kernel
theorem dX9_reads_152 : decode cX9_reads 152 = .ok (.iconst 0, 1) := by decide +kernel
theorem dX9_reads_153 : decode cX9_reads 153 = .ok (.bastore, 1) := by decide +kernel
theorem dX9_reads_154 : decode cX9_reads 154 = .ok (.iload_n 1, 1) := by decide +kernel
theorem dX9_reads_155 : decode cX9_reads 155 = .ok (.ireturn, 1) := by decide +kernel
theorem dX9_areSame_0 : decode cX9_areSame 0 = .ok (.aload_n 0, 1) := by decide +kernel
theorem dX9_areSame_1 : decode cX9_areSame 1 = .ok (.getfield 38, 3) := by decide +kernel
theorem dX9_areSame_4 : decode cX9_areSame 4 = .ok (.iload_n 1, 1) := by decide +kernel
theorem dX9_areSame_5 : decode cX9_areSame 5 = .ok (.iaload, 1) := by decide +kernel
theorem dX9_areSame_6 : decode cX9_areSame 6 = .ok (.istore_n 3, 1) := by decide +kernel
theorem dX9_areSame_7 : decode cX9_areSame 7 = .ok (.aload_n 0, 1) := by decide +kernel
theorem dX9_areSame_8 : decode cX9_areSame 8 = .ok (.getfield 38, 3) := by decide +kernel
theorem dX9_areSame_11 : decode cX9_areSame 11 = .ok (.iload_n 2, 1) := by decide +kernel
theorem dX9_areSame_12 : decode cX9_areSame 12 = .ok (.iaload, 1) := by decide +kernel
theorem dX9_areSame_13 : decode cX9_areSame 13 = .ok (.istore 4, 2) := by decide +kernel
theorem dX9_areSame_15 : decode cX9_areSame 15 = .ok (.iconst 0, 1) := by decide +kernel
theorem dX9_areSame_16 : decode cX9_areSame 16 = .ok (.istore 5, 2) := by decide +kernel
theorem dX9_areSame_18 : decode cX9_areSame 18 = .ok (.iload 5, 2) := by decide +kernel
theorem dX9_areSame_20 : decode cX9_areSame 20 = .ok (.aload_n 0, 1) := by decide +kernel
theorem dX9_areSame_21 : decode cX9_areSame 21 = .ok (.getfield 108, 3) := by decide +kernel
theorem dX9_areSame_24 : decode cX9_areSame 24 = .ok (.if_icmp .ge 39, 3) := by decide +kernel
theorem dX9_areSame_27 : decode cX9_areSame 27 = .ok (.aload_n 0, 1) := by decide +kernel
theorem dX9_areSame_28 : decode cX9_areSame 28 = .ok (.getfield 38, 3) := by decide +kernel
theorem dX9_areSame_31 : decode cX9_areSame 31 = .ok (.iload 5, 2) := by decide +kernel
theorem dX9_areSame_33 : decode cX9_areSame 33 = .ok (.aload_n 0, 1) := by decide +kernel
theorem dX9_areSame_34 : decode cX9_areSame 34 = .ok (.getfield 38, 3) := by decide +kernel
theorem dX9_areSame_37 : decode cX9_areSame 37 = .ok (.iload 5, 2) := by decide +kernel
theorem dX9_areSame_39 : decode cX9_areSame 39 = .ok (.iaload, 1) := by decide +kernel
theorem dX9_areSame_40 : decode cX9_areSame 40 = .ok (.iload_n 3, 1) := by decide +kernel
theorem dX9_areSame_41 : decode cX9_areSame 41 = .ok (.if_icmp .ne 8, 3) := by decide +kernel
theorem dX9_areSame_44 : decode cX9_areSame 44 = .ok (.iload 4, 2) := by decide +kernel
theorem dX9_areSame_46 : decode cX9_areSame 46 = .ok (.goto 10, 3) := by decide +kernel
theorem dX9_areSame_49 : decode cX9_areSame 49 = .ok (.aload_n 0, 1) := by decide +kernel
theorem dX9_areSame_50 : decode cX9_areSame 50 = .ok (.getfield 38, 3) := by decide +kernel
theorem dX9_areSame_53 : decode cX9_areSame 53 = .ok (.iload 5, 2) := by decide +kernel
theorem dX9_areSame_55 : decode cX9_areSame 55 = .ok (.iaload, 1) := by decide +kernel
theorem dX9_areSame_56 : decode cX9_areSame 56 = .ok (.iastore, 1) := by decide +kernel
theorem dX9_areSame_57 : decode cX9_areSame 57 = .ok (.iinc 5 1, 3) := by decide +kernel
theorem dX9_areSame_60 : decode cX9_areSame 60 = .ok (.goto (-42), 3) := by decide +kernel
theorem dX9_areSame_63 : decode cX9_areSame 63 = .ok (.return_, 1) := by decide +kernel
theorem dX9_isAhead_0 : decode cX9_isAhead 0 = .ok (.aload_n 0, 1) := by decide +kernel
theorem dX9_isAhead_1 : decode cX9_isAhead 1 = .ok (.getfield 41, 3) := by decide +kernel
theorem dX9_isAhead_4 : decode cX9_isAhead 4 = .ok (.iload_n 2, 1) := by decide +kernel
theorem dX9_isAhead_5 : decode cX9_isAhead 5 = .ok (.dup2, 1) := by decide +kernel
theorem dX9_isAhead_6 : decode cX9_isAhead 6 = .ok (.iaload, 1) := by decide +kernel
theorem dX9_isAhead_7 : decode cX9_isAhead 7 = .ok (.iconst 1, 1) := by decide +kernel
theorem dX9_isAhead_8 : decode cX9_isAhead 8 = .ok (.iload_n 1, 1) := by decide +kernel
theorem dX9_isAhead_9 : decode cX9_isAhead 9 = .ok (.ishl, 1) := by decide +kernel
theorem dX9_isAhead_10 : decode cX9_isAhead 10 = .ok (.ior, 1) := by decide +kernel
theorem dX9_isAhead_11 : decode cX9_isAhead 11 = .ok (.iastore, 1) := by decide +kernel
theorem dX9_isAhead_12 : decode cX9_isAhead 12 = .ok (.return_, 1) := by decide +kernel
theorem dX9_lays_0 : decode cX9_lays 0 = .ok (.iload_n 2, 1) := by decide +kernel
theorem dX9_lays_1 : decode cX9_lays 1 = .ok (.ifCond .ne 12, 3) := by decide +kernel
theorem dX9_lays_4 : decode cX9_lays 4 = .ok (.aload_n 0, 1) := by decide +kernel
theorem dX9_lays_5 : decode cX9_lays 5 = .ok (.iload_n 1, 1) := by decide +kernel
theorem dX9_lays_6 : decode cX9_lays 6 = .ok (.iload_n 3, 1) := by decide +kernel
theorem dX9_lays_7 : decode cX9_lays 7 = .ok (.invokevirtual 111, 3) := by decide +kernel
theorem dX9_lays_10 : decode cX9_lays 10 = .ok (.goto 9, 3) := by decide +kernel
theorem dX9_lays_13 : decode cX9_lays 13 = .ok (.aload_n 0, 1) := by decide +kernel
theorem dX9_lays_14 : decode cX9_lays 14 = .ok (.iload_n 1, 1) := by decide +kernel
theorem dX9_lays_15 : decode cX9_lays 15 = .ok (.iload_n 3, 1) := by decide +kernel
theorem dX9_lays_16 : decode cX9_lays 16 = .ok (.invokevirtual 115, 3) := by decide +kernel
theorem dX9_lays_19 : decode cX9_lays 19 = .ok (.return_, 1) := by decide +kernel
theorem dX9_laysTense_0 : decode cX9_laysTense 0 = .ok (.iconst 1, 1) := by decide +kernel
theorem dX9_laysTense_1 : decode cX9_laysTense 1 = .ok (.iconst 2, 1) := by decide +kernel
theorem dX9_laysTense_2 : decode cX9_laysTense 2 = .ok (.iload_n 1, 1) := by decide +kernel
theorem dX9_laysTense_3 : decode cX9_laysTense 3 = .ok (.imul, 1) := by decide +kernel
theorem dX9_laysTense_4 : decode cX9_laysTense 4 = .ok (.iadd, 1) := by decide +kernel
theorem dX9_laysTense_5 : decode cX9_laysTense 5 = .ok (.istore_n 2, 1) := by decide +kernel
theorem dX9_laysTense_6 : decode cX9_laysTense 6 = .ok (.iconst 2, 1) := by decide +kernel
theorem dX9_laysTense_7 : decode cX9_laysTense 7 = .ok (.iconst 2, 1) := by decide +kernel
theorem dX9_laysTense_8 : decode cX9_laysTense 8 = .ok (.iload_n 1, 1) := by decide +kernel
theorem dX9_laysTense_9 : decode cX9_laysTense 9 = .ok (.imul, 1) := by decide +kernel
theorem dX9_laysTense_10 : decode cX9_laysTense 10 = .ok (.iadd, 1) := by decide +kernel
theorem dX9_laysTense_11 : decode cX9_laysTense 11 = .ok (.istore_n 3, 1) := by decide +kernel
theorem dX9_laysTense_12 : decode cX9_laysTense 12 = .ok (.aload_n 0, 1) := by decide +kernel
theorem dX9_laysTense_13 : decode cX9_laysTense 13 = .ok (.getfield 7, 3) := by decide +kernel
theorem dX9_laysTense_16 : decode cX9_laysTense 16 = .ok (.iconst 2, 1) := by decide +kernel
theorem dX9_laysTense_17 : decode cX9_laysTense 17 = .ok (.iconst 2, 1) := by decide +kernel
theorem dX9_laysTense_18 : decode cX9_laysTense 18 = .ok (.iload_n 1, 1) := by decide +kernel
theorem dX9_laysTense_19 : decode cX9_laysTense 19 = .ok (.imul, 1) := by decide +kernel
theorem dX9_laysTense_20 : decode cX9_laysTense 20 = .ok (.iadd, 1) := by decide +kernel
theorem dX9_laysTense_21 : decode cX9_laysTense 21 = .ok (.iaload, 1) := by decide +kernel
theorem dX9_laysTense_22 : decode cX9_laysTense 22 = .ok (.istore 4, 2) := by decide +kernel
theorem dX9_laysTense_24 : decode cX9_laysTense 24 = .ok (.iload 4, 2) := by decide +kernel
theorem dX9_laysTense_26 : decode cX9_laysTense 26 = .ok (.ifCond .eq 16, 3) := by decide +kernel
theorem dX9_laysTense_29 : decode cX9_laysTense 29 = .ok (.iload 4, 2) := by decide +kernel
theorem dX9_laysTense_31 : decode cX9_laysTense 31 = .ok (.iconst 3, 1) := by decide +kernel
theorem dX9_laysTense_32 : decode cX9_laysTense 32 = .ok (.if_icmp .eq 10, 3) := by decide +kernel
theorem dX9_laysTense_35 : decode cX9_laysTense 35 = .ok (.iload 4, 2) := by decide +kernel
theorem dX9_laysTense_37 : decode cX9_laysTense 37 = .ok (.bipush 6, 2) := by decide +kernel
theorem dX9_laysTense_39 : decode cX9_laysTense 39 = .ok (.if_icmp .ne 7, 3) := by decide +kernel
theorem dX9_laysTense_42 : decode cX9_laysTense 42 = .ok (.iconst 1, 1) := by decide +kernel
theorem dX9_laysTense_43 : decode cX9_laysTense 43 = .ok (.goto 4, 3) := by decide +kernel
theorem dX9_laysTense_46 : decode cX9_laysTense 46 = .ok (.iconst 0, 1) := by decide +kernel
theorem dX9_laysTense_47 : decode cX9_laysTense 47 = .ok (.istore 5, 2) := by decide +kernel
theorem dX9_laysTense_49 : decode cX9_laysTense 49 = .ok (.iload 4, 2) := by decide +kernel
theorem dX9_laysTense_51 : decode cX9_laysTense 51 = .ok (.iconst 1, 1) := by decide +kernel
theorem dX9_laysTense_52 : decode cX9_laysTense 52 = .ok (.if_icmp .eq 16, 3) := by decide +kernel
theorem dX9_laysTense_55 : decode cX9_laysTense 55 = .ok (.iload 4, 2) := by decide +kernel
theorem dX9_laysTense_57 : decode cX9_laysTense 57 = .ok (.iconst 4, 1) := by decide +kernel
theorem dX9_laysTense_58 : decode cX9_laysTense 58 = .ok (.if_icmp .eq 10, 3) := by decide +kernel
theorem dX9_laysTense_61 : decode cX9_laysTense 61 = .ok (.iload 4, 2) := by decide +kernel
theorem dX9_laysTense_63 : decode cX9_laysTense 63 = .ok (.bipush 7, 2) := by decide +kernel
theorem dX9_laysTense_65 : decode cX9_laysTense 65 = .ok (.if_icmp .ne 7, 3) := by decide +kernel
theorem dX9_laysTense_68 : decode cX9_laysTense 68 = .ok (.iconst 1, 1) := by decide +kernel
theorem dX9_laysTense_69 : decode cX9_laysTense 69 = .ok (.goto 4, 3) := by decide +kernel
theorem dX9_laysTense_72 : decode cX9_laysTense 72 = .ok (.iconst 0, 1) := by decide +kernel
theorem dX9_laysTense_73 : decode cX9_laysTense 73 = .ok (.istore 6, 2) := by decide +kernel
theorem dX9_laysTense_75 : decode cX9_laysTense 75 = .ok (.iload 5, 2) := by decide +kernel
theorem dX9_laysTense_77 : decode cX9_laysTense 77 = .ok (.ifCond .eq 12, 3) := by decide +kernel
theorem dX9_laysTense_80 : decode cX9_laysTense 80 = .ok (.aload_n 0, 1) := by decide +kernel
theorem dX9_laysTense_81 : decode cX9_laysTense 81 = .ok (.iload_n 3, 1) := by decide +kernel
theorem dX9_laysTense_82 : decode cX9_laysTense 82 = .ok (.iload_n 2, 1) := by decide +kernel
theorem dX9_laysTense_83 : decode cX9_laysTense 83 = .ok (.invokevirtual 115, 3) := by decide +kernel
theorem dX9_laysTense_86 : decode cX9_laysTense 86 = .ok (.goto 23, 3) := by decide +kernel
theorem dX9_laysTense_89 : decode cX9_laysTense 89 = .ok (.iload 6, 2) := by decide +kernel
theorem dX9_laysTense_91 : decode cX9_laysTense 91 = .ok (.ifCond .eq 12, 3) := by decide +kernel
theorem dX9_laysTense_94 : decode cX9_laysTense 94 = .ok (.aload_n 0, 1) := by decide +kernel
theorem dX9_laysTense_95 : decode cX9_laysTense 95 = .ok (.iload_n 3, 1) := by decide +kernel
theorem dX9_laysTense_96 : decode cX9_laysTense 96 = .ok (.iload_n 2, 1) := by decide +kernel
theorem dX9_laysTense_97 : decode cX9_laysTense 97 = .ok (.invokevirtual 111, 3) := by decide +kernel
theorem dX9_laysTense_100 : decode cX9_laysTense 100 = .ok (.goto 9, 3) := by decide +kernel
theorem dX9_laysTense_103 : decode cX9_laysTense 103 = .ok (.aload_n 0, 1) := by decide +kernel
theorem dX9_laysTense_104 : decode cX9_laysTense 104 = .ok (.iload_n 2, 1) := by decide +kernel
theorem dX9_laysTense_105 : decode cX9_laysTense 105 = .ok (.iload_n 3, 1) := by decide +kernel
theorem dX9_laysTense_106 : decode cX9_laysTense 106 = .ok (.invokevirtual 111, 3) := by decide +kernel
theorem dX9_laysTense_109 : decode cX9_laysTense 109 = .ok (.iload 4, 2) := by decide +kernel
theorem dX9_laysTense_111 : decode cX9_laysTense 111 = .ok (.iconst 3, 1) := by decide +kernel
theorem dX9_laysTense_112 : decode cX9_laysTense 112 = .ok (.if_icmp .ge 12, 3) := by decide +kernel
theorem dX9_laysTense_115 : decode cX9_laysTense 115 = .ok (.aload_n 0, 1) := by decide +kernel
theorem dX9_laysTense_116 : decode cX9_laysTense 116 = .ok (.iload_n 2, 1) := by decide +kernel
theorem dX9_laysTense_117 : decode cX9_laysTense 117 = .ok (.iconst 0, 1) := by decide +kernel
theorem dX9_laysTense_118 : decode cX9_laysTense 118 = .ok (.invokevirtual 111, 3) := by decide +kernel
theorem dX9_laysTense_121 : decode cX9_laysTense 121 = .ok (.goto 25, 3) := by decide +kernel
theorem dX9_laysTense_124 : decode cX9_laysTense 124 = .ok (.iload 4, 2) := by decide +kernel
theorem dX9_laysTense_126 : decode cX9_laysTense 126 = .ok (.bipush 6, 2) := by decide +kernel
theorem dX9_laysTense_128 : decode cX9_laysTense 128 = .ok (.if_icmp .ge 12, 3) := by decide +kernel
theorem dX9_laysTense_131 : decode cX9_laysTense 131 = .ok (.aload_n 0, 1) := by decide +kernel
theorem dX9_laysTense_132 : decode cX9_laysTense 132 = .ok (.iload_n 2, 1) := by decide +kernel
theorem dX9_laysTense_133 : decode cX9_laysTense 133 = .ok (.iconst 0, 1) := by decide +kernel
theorem dX9_laysTense_134 : decode cX9_laysTense 134 = .ok (.invokevirtual 115, 3) := by decide +kernel
theorem dX9_laysTense_137 : decode cX9_laysTense 137 = .ok (.goto 9, 3) := by decide +kernel
theorem dX9_laysTense_140 : decode cX9_laysTense 140 = .ok (.aload_n 0, 1) := by decide +kernel
theorem dX9_laysTense_141 : decode cX9_laysTense 141 = .ok (.iconst 0, 1) := by decide +kernel
theorem dX9_laysTense_142 : decode cX9_laysTense 142 = .ok (.iload_n 2, 1) := by decide +kernel
theorem dX9_laysTense_143 : decode cX9_laysTense 143 = .ok (.invokevirtual 111, 3) := by decide +kernel
theorem dX9_laysTense_146 : decode cX9_laysTense 146 = .ok (.return_, 1) := by decide +kernel
theorem dX9_laysLink_0 : decode cX9_laysLink 0 = .ok (.aload_n 0, 1) := by decide +kernel
theorem dX9_laysLink_1 : decode cX9_laysLink 1 = .ok (.getfield 7, 3) := by decide +kernel
theorem dX9_laysLink_4 : decode cX9_laysLink 4 = .ok (.iconst 2, 1) := by decide +kernel
theorem dX9_laysLink_5 : decode cX9_laysLink 5 = .ok (.iconst 2, 1) := by decide +kernel
theorem dX9_laysLink_6 : decode cX9_laysLink 6 = .ok (.iload_n 1, 1) := by decide +kernel
theorem dX9_laysLink_7 : decode cX9_laysLink 7 = .ok (.imul, 1) := by decide +kernel
theorem dX9_laysLink_8 : decode cX9_laysLink 8 = .ok (.iadd, 1) := by decide +kernel
theorem dX9_laysLink_9 : decode cX9_laysLink 9 = .ok (.iconst 1, 1) := by decide +kernel
theorem dX9_laysLink_10 : decode cX9_laysLink 10 = .ok (.iadd, 1) := by decide +kernel
theorem dX9_laysLink_11 : decode cX9_laysLink 11 = .ok (.iaload, 1) := by decide +kernel
theorem dX9_laysLink_12 : decode cX9_laysLink 12 = .ok (.istore_n 2, 1) := by decide +kernel
theorem dX9_laysLink_13 : decode cX9_laysLink 13 = .ok (.iconst 1, 1) := by decide +kernel
theorem dX9_laysLink_14 : decode cX9_laysLink 14 = .ok (.iconst 2, 1) := by decide +kernel
theorem dX9_laysLink_15 : decode cX9_laysLink 15 = .ok (.iload_n 1, 1) := by decide +kernel
theorem dX9_laysLink_16 : decode cX9_laysLink 16 = .ok (.imul, 1) := by decide +kernel
theorem dX9_laysLink_17 : decode cX9_laysLink 17 = .ok (.iadd, 1) := by decide +kernel
theorem dX9_laysLink_18 : decode cX9_laysLink 18 = .ok (.istore_n 3, 1) := by decide +kernel
theorem dX9_laysLink_19 : decode cX9_laysLink 19 = .ok (.iload_n 2, 1) := by decide +kernel
theorem dX9_laysLink_20 : decode cX9_laysLink 20 = .ok (.ifCond .ne 14, 3) := by decide +kernel
theorem dX9_laysLink_23 : decode cX9_laysLink 23 = .ok (.aload_n 0, 1) := by decide +kernel
theorem dX9_laysLink_24 : decode cX9_laysLink 24 = .ok (.iload_n 3, 1) := by decide +kernel
theorem dX9_laysLink_25 : decode cX9_laysLink 25 = .ok (.iconst 2, 1) := by decide +kernel
theorem dX9_laysLink_26 : decode cX9_laysLink 26 = .ok (.isub, 1) := by decide +kernel
theorem dX9_laysLink_27 : decode cX9_laysLink 27 = .ok (.iload_n 3, 1) := by decide +kernel
theorem dX9_laysLink_28 : decode cX9_laysLink 28 = .ok (.invokevirtual 111, 3) := by decide +kernel
theorem dX9_laysLink_31 : decode cX9_laysLink 31 = .ok (.goto 32, 3) := by decide +kernel
theorem dX9_laysLink_34 : decode cX9_laysLink 34 = .ok (.iload_n 2, 1) := by decide +kernel
theorem dX9_laysLink_35 : decode cX9_laysLink 35 = .ok (.iconst 1, 1) := by decide +kernel
theorem dX9_laysLink_36 : decode cX9_laysLink 36 = .ok (.if_icmp .ne 14, 3) := by decide +kernel
theorem dX9_laysLink_39 : decode cX9_laysLink 39 = .ok (.aload_n 0, 1) := by decide +kernel
theorem dX9_laysLink_40 : decode cX9_laysLink 40 = .ok (.iload_n 3, 1) := by decide +kernel
theorem dX9_laysLink_41 : decode cX9_laysLink 41 = .ok (.iconst 2, 1) := by decide +kernel
theorem dX9_laysLink_42 : decode cX9_laysLink 42 = .ok (.isub, 1) := by decide +kernel
theorem dX9_laysLink_43 : decode cX9_laysLink 43 = .ok (.iload_n 3, 1) := by decide +kernel
theorem dX9_laysLink_44 : decode cX9_laysLink 44 = .ok (.invokevirtual 115, 3) := by decide +kernel
theorem dX9_laysLink_47 : decode cX9_laysLink 47 = .ok (.goto 16, 3) := by decide +kernel
theorem dX9_laysLink_50 : decode cX9_laysLink 50 = .ok (.iload_n 2, 1) := by decide +kernel
theorem dX9_laysLink_51 : decode cX9_laysLink 51 = .ok (.iconst 2, 1) := by decide +kernel
theorem dX9_laysLink_52 : decode cX9_laysLink 52 = .ok (.if_icmp .ne 11, 3) := by decide +kernel
theorem dX9_laysLink_55 : decode cX9_laysLink 55 = .ok (.aload_n 0, 1) := by decide +kernel
theorem dX9_laysLink_56 : decode cX9_laysLink 56 = .ok (.iload_n 3, 1) := by decide +kernel
theorem dX9_laysLink_57 : decode cX9_laysLink 57 = .ok (.iload_n 3, 1) := by decide +kernel
theorem dX9_laysLink_58 : decode cX9_laysLink 58 = .ok (.iconst 2, 1) := by decide +kernel
theorem dX9_laysLink_59 : decode cX9_laysLink 59 = .ok (.isub, 1) := by decide +kernel
theorem dX9_laysLink_60 : decode cX9_laysLink 60 = .ok (.invokevirtual 111, 3) := by decide +kernel
theorem dX9_laysLink_63 : decode cX9_laysLink 63 = .ok (.return_, 1) := by decide +kernel
theorem dX9_laysAll_0 : decode cX9_laysAll 0 = .ok (.aload_n 0, 1) := by decide +kernel
theorem dX9_laysAll_1 : decode cX9_laysAll 1 = .ok (.iconst 1, 1) := by decide +kernel
theorem dX9_laysAll_2 : decode cX9_laysAll 2 = .ok (.iconst 2, 1) := by decide +kernel
theorem dX9_laysAll_3 : decode cX9_laysAll 3 = .ok (.aload_n 0, 1) := by decide +kernel
theorem dX9_laysAll_4 : decode cX9_laysAll 4 = .ok (.getfield 7, 3) := by decide +kernel
theorem dX9_laysAll_7 : decode cX9_laysAll 7 = .ok (.iconst 0, 1) := by decide +kernel
theorem dX9_laysAll_8 : decode cX9_laysAll 8 = .ok (.iaload, 1) := by decide +kernel
theorem dX9_laysAll_9 : decode cX9_laysAll 9 = .ok (.imul, 1) := by decide +kernel
theorem dX9_laysAll_10 : decode cX9_laysAll 10 = .ok (.iadd, 1) := by decide +kernel
theorem dX9_laysAll_11 : decode cX9_laysAll 11 = .ok (.putfield 108, 3) := by decide +kernel
theorem dX9_laysAll_14 : decode cX9_laysAll 14 = .ok (.iconst 0, 1) := by decide +kernel
theorem dX9_laysAll_15 : decode cX9_laysAll 15 = .ok (.istore 5, 2) := by decide +kernel
theorem dX9_laysAll_17 : decode cX9_laysAll 17 = .ok (.iload 5, 2) := by decide +kernel
theorem dX9_laysAll_19 : decode cX9_laysAll 19 = .ok (.aload_n 0, 1) := by decide +kernel
theorem dX9_laysAll_20 : decode cX9_laysAll 20 = .ok (.getfield 108, 3) := by decide +kernel
theorem dX9_laysAll_23 : decode cX9_laysAll 23 = .ok (.if_icmp .ge 26, 3) := by decide +kernel
theorem dX9_laysAll_26 : decode cX9_laysAll 26 = .ok (.aload_n 0, 1) := by decide +kernel
theorem dX9_laysAll_27 : decode cX9_laysAll 27 = .ok (.getfield 38, 3) := by decide +kernel
theorem dX9_laysAll_30 : decode cX9_laysAll 30 = .ok (.iload 5, 2) := by decide +kernel
theorem dX9_laysAll_32 : decode cX9_laysAll 32 = .ok (.iload 5, 2) := by decide +kernel
theorem dX9_laysAll_34 : decode cX9_laysAll 34 = .ok (.iastore, 1) := by decide +kernel
theorem dX9_laysAll_35 : decode cX9_laysAll 35 = .ok (.aload_n 0, 1) := by decide +kernel
theorem dX9_laysAll_36 : decode cX9_laysAll 36 = .ok (.getfield 41, 3) := by decide +kernel
theorem dX9_laysAll_39 : decode cX9_laysAll 39 = .ok (.iload 5, 2) := by decide +kernel
theorem dX9_laysAll_41 : decode cX9_laysAll 41 = .ok (.iconst 0, 1) := by decide +kernel
theorem dX9_laysAll_42 : decode cX9_laysAll 42 = .ok (.iastore, 1) := by decide +kernel
theorem dX9_laysAll_43 : decode cX9_laysAll 43 = .ok (.iinc 5 1, 3) := by decide +kernel
theorem dX9_laysAll_46 : decode cX9_laysAll 46 = .ok (.goto (-29), 3) := by decide +kernel
theorem dX9_laysAll_49 : decode cX9_laysAll 49 = .ok (.iconst 0, 1) := by decide +kernel
theorem dX9_laysAll_50 : decode cX9_laysAll 50 = .ok (.istore 5, 2) := by decide +kernel
theorem dX9_laysAll_52 : decode cX9_laysAll 52 = .ok (.iload 5, 2) := by decide +kernel
theorem dX9_laysAll_54 : decode cX9_laysAll 54 = .ok (.aload_n 0, 1) := by decide +kernel
theorem dX9_laysAll_55 : decode cX9_laysAll 55 = .ok (.getfield 7, 3) := by decide +kernel
theorem dX9_laysAll_58 : decode cX9_laysAll 58 = .ok (.iconst 1, 1) := by decide +kernel
theorem dX9_laysAll_59 : decode cX9_laysAll 59 = .ok (.iaload, 1) := by decide +kernel
theorem dX9_laysAll_60 : decode cX9_laysAll 60 = .ok (.if_icmp .ge 75, 3) := by decide +kernel
theorem dX9_laysAll_63 : decode cX9_laysAll 63 = .ok (.iload_n 1, 1) := by decide +kernel
theorem dX9_laysAll_64 : decode cX9_laysAll 64 = .ok (.iload 5, 2) := by decide +kernel
theorem dX9_laysAll_66 : decode cX9_laysAll 66 = .ok (.ishr, 1) := by decide +kernel
theorem dX9_laysAll_67 : decode cX9_laysAll 67 = .ok (.iconst 1, 1) := by decide +kernel
theorem dX9_laysAll_68 : decode cX9_laysAll 68 = .ok (.iand, 1) := by decide +kernel
theorem dX9_laysAll_69 : decode cX9_laysAll 69 = .ok (.iconst 1, 1) := by decide +kernel
theorem dX9_laysAll_70 : decode cX9_laysAll 70 = .ok (.if_icmp .ne 59, 3) := by decide +kernel
theorem dX9_laysAll_73 : decode cX9_laysAll 73 = .ok (.aload_n 0, 1) := by decide +kernel
theorem dX9_laysAll_74 : decode cX9_laysAll 74 = .ok (.iload 5, 2) := by decide +kernel
theorem dX9_laysAll_76 : decode cX9_laysAll 76 = .ok (.iconst 0, 1) := by decide +kernel
theorem dX9_laysAll_77 : decode cX9_laysAll 77 = .ok (.invokevirtual 118, 3) := by decide +kernel
theorem dX9_laysAll_80 : decode cX9_laysAll 80 = .ok (.istore 6, 2) := by decide +kernel
theorem dX9_laysAll_82 : decode cX9_laysAll 82 = .ok (.iload 6, 2) := by decide +kernel
theorem dX9_laysAll_84 : decode cX9_laysAll 84 = .ok (.bipush (-9), 2) := by decide +kernel
theorem dX9_laysAll_86 : decode cX9_laysAll 86 = .ok (.if_icmp .ne 31, 3) := by decide +kernel
theorem dX9_laysAll_89 : decode cX9_laysAll 89 = .ok (.aload_n 0, 1) := by decide +kernel
theorem dX9_laysAll_90 : decode cX9_laysAll 90 = .ok (.aload_n 0, 1) := by decide +kernel
theorem dX9_laysAll_91 : decode cX9_laysAll 91 = .ok (.iload 5, 2) := by decide +kernel
theorem dX9_laysAll_93 : decode cX9_laysAll 93 = .ok (.iconst 1, 1) := by decide +kernel
theorem dX9_laysAll_94 : decode cX9_laysAll 94 = .ok (.invokevirtual 118, 3) := by decide +kernel
theorem dX9_laysAll_97 : decode cX9_laysAll 97 = .ok (.aload_n 0, 1) := by decide +kernel
theorem dX9_laysAll_98 : decode cX9_laysAll 98 = .ok (.iload 5, 2) := by decide +kernel
theorem dX9_laysAll_100 : decode cX9_laysAll 100 = .ok (.iconst 2, 1) := by decide +kernel
theorem dX9_laysAll_101 : decode cX9_laysAll 101 = .ok (.invokevirtual 118, 3) := by decide +kernel
theorem dX9_laysAll_104 : decode cX9_laysAll 104 = .ok (.aload_n 0, 1) := by decide +kernel
theorem dX9_laysAll_105 : decode cX9_laysAll 105 = .ok (.iload 5, 2) := by decide +kernel
theorem dX9_laysAll_107 : decode cX9_laysAll 107 = .ok (.iconst 3, 1) := by decide +kernel
theorem dX9_laysAll_108 : decode cX9_laysAll 108 = .ok (.invokevirtual 118, 3) := by decide +kernel
theorem dX9_laysAll_111 : decode cX9_laysAll 111 = .ok (.invokevirtual 122, 3) := by decide +kernel
theorem dX9_laysAll_114 : decode cX9_laysAll 114 = .ok (.goto 15, 3) := by decide +kernel
theorem dX9_laysAll_117 : decode cX9_laysAll 117 = .ok (.aload_n 0, 1) := by decide +kernel
theorem dX9_laysAll_118 : decode cX9_laysAll 118 = .ok (.iload 6, 2) := by decide +kernel
theorem dX9_laysAll_120 : decode cX9_laysAll 120 = .ok (.invokevirtual 126, 3) := by decide +kernel
theorem dX9_laysAll_123 : decode cX9_laysAll 123 = .ok (.aload_n 0, 1) := by decide +kernel
theorem dX9_laysAll_124 : decode cX9_laysAll 124 = .ok (.iload 6, 2) := by decide +kernel
theorem dX9_laysAll_126 : decode cX9_laysAll 126 = .ok (.invokevirtual 130, 3) := by decide +kernel
theorem dX9_laysAll_129 : decode cX9_laysAll 129 = .ok (.iinc 5 1, 3) := by decide +kernel
theorem dX9_laysAll_132 : decode cX9_laysAll 132 = .ok (.goto (-80), 3) := by decide +kernel
theorem dX9_laysAll_135 : decode cX9_laysAll 135 = .ok (.iload_n 3, 1) := by decide +kernel
theorem dX9_laysAll_136 : decode cX9_laysAll 136 = .ok (.bipush (-9), 2) := by decide +kernel
theorem dX9_laysAll_138 : decode cX9_laysAll 138 = .ok (.if_icmp .eq 11, 3) := by decide +kernel
theorem dX9_laysAll_141 : decode cX9_laysAll 141 = .ok (.aload_n 0, 1) := by decide +kernel
theorem dX9_laysAll_142 : decode cX9_laysAll 142 = .ok (.iload_n 2, 1) := by decide +kernel
theorem dX9_laysAll_143 : decode cX9_laysAll 143 = .ok (.iload_n 3, 1) := by decide +kernel
theorem dX9_laysAll_144 : decode cX9_laysAll 144 = .ok (.iload 4, 2) := by decide +kernel
theorem dX9_laysAll_146 : decode cX9_laysAll 146 = .ok (.invokevirtual 122, 3) := by decide +kernel
theorem dX9_laysAll_149 : decode cX9_laysAll 149 = .ok (.return_, 1) := by decide +kernel
theorem dX9_classOf_0 : decode cX9_classOf 0 = .ok (.iconst 0, 1) := by decide +kernel
theorem dX9_classOf_1 : decode cX9_classOf 1 = .ok (.istore_n 2, 1) := by decide +kernel
theorem dX9_classOf_2 : decode cX9_classOf 2 = .ok (.iconst 0, 1) := by decide +kernel
theorem dX9_classOf_3 : decode cX9_classOf 3 = .ok (.istore_n 3, 1) := by decide +kernel
theorem dX9_classOf_4 : decode cX9_classOf 4 = .ok (.iload_n 3, 1) := by decide +kernel
theorem dX9_classOf_5 : decode cX9_classOf 5 = .ok (.aload_n 0, 1) := by decide +kernel
theorem dX9_classOf_6 : decode cX9_classOf 6 = .ok (.getfield 108, 3) := by decide +kernel
theorem dX9_classOf_9 : decode cX9_classOf 9 = .ok (.if_icmp .ge 34, 3) := by decide +kernel
theorem dX9_classOf_12 : decode cX9_classOf 12 = .ok (.iload_n 2, 1) := by decide +kernel
theorem dX9_classOf_13 : decode cX9_classOf 13 = .ok (.aload_n 0, 1) := by decide +kernel
theorem dX9_classOf_14 : decode cX9_classOf 14 = .ok (.getfield 38, 3) := by decide +kernel
theorem dX9_classOf_17 : decode cX9_classOf 17 = .ok (.iload_n 3, 1) := by decide +kernel
theorem dX9_classOf_18 : decode cX9_classOf 18 = .ok (.iaload, 1) := by decide +kernel
theorem dX9_classOf_19 : decode cX9_classOf 19 = .ok (.aload_n 0, 1) := by decide +kernel
theorem dX9_classOf_20 : decode cX9_classOf 20 = .ok (.getfield 38, 3) := by decide +kernel
theorem dX9_classOf_23 : decode cX9_classOf 23 = .ok (.iload_n 1, 1) := by decide +kernel
theorem dX9_classOf_24 : decode cX9_classOf 24 = .ok (.iaload, 1) := by decide +kernel
theorem dX9_classOf_25 : decode cX9_classOf 25 = .ok (.if_icmp .ne 9, 3) := by decide +kernel
theorem dX9_classOf_28 : decode cX9_classOf 28 = .ok (.iconst 1, 1) := by decide +kernel
theorem dX9_classOf_29 : decode cX9_classOf 29 = .ok (.iload_n 3, 1) := by decide +kernel
theorem dX9_classOf_30 : decode cX9_classOf 30 = .ok (.ishl, 1) := by decide +kernel
theorem dX9_classOf_31 : decode cX9_classOf 31 = .ok (.goto 4, 3) := by decide +kernel
theorem dX9_classOf_34 : decode cX9_classOf 34 = .ok (.iconst 0, 1) := by decide +kernel
theorem dX9_classOf_35 : decode cX9_classOf 35 = .ok (.ior, 1) := by decide +kernel
theorem dX9_classOf_36 : decode cX9_classOf 36 = .ok (.istore_n 2, 1) := by decide +kernel
theorem dX9_classOf_37 : decode cX9_classOf 37 = .ok (.iinc 3 1, 3) := by decide +kernel
theorem dX9_classOf_40 : decode cX9_classOf 40 = .ok (.goto (-36), 3) := by decide +kernel
theorem dX9_classOf_43 : decode cX9_classOf 43 = .ok (.iload_n 2, 1) := by decide +kernel
theorem dX9_classOf_44 : decode cX9_classOf 44 = .ok (.ireturn, 1) := by decide +kernel
theorem dX9_isSound_0 : decode cX9_isSound 0 = .ok (.iconst 0, 1) := by decide +kernel
theorem dX9_isSound_1 : decode cX9_isSound 1 = .ok (.istore_n 1, 1) := by decide +kernel
theorem dX9_isSound_2 : decode cX9_isSound 2 = .ok (.iconst 0, 1) := by decide +kernel
theorem dX9_isSound_3 : decode cX9_isSound 3 = .ok (.istore_n 2, 1) := by decide +kernel
theorem dX9_isSound_4 : decode cX9_isSound 4 = .ok (.iconst 1, 1) := by decide +kernel
theorem dX9_isSound_5 : decode cX9_isSound 5 = .ok (.aload_n 0, 1) := by decide +kernel
theorem dX9_isSound_6 : decode cX9_isSound 6 = .ok (.getfield 108, 3) := by decide +kernel
theorem dX9_isSound_9 : decode cX9_isSound 9 = .ok (.ishl, 1) := by decide +kernel
theorem dX9_isSound_10 : decode cX9_isSound 10 = .ok (.iconst 1, 1) := by decide +kernel
theorem dX9_isSound_11 : decode cX9_isSound 11 = .ok (.isub, 1) := by decide +kernel
theorem dX9_isSound_12 : decode cX9_isSound 12 = .ok (.istore_n 3, 1) := by decide +kernel
theorem dX9_isSound_13 : decode cX9_isSound 13 = .ok (.iconst 1, 1) := by decide +kernel
theorem dX9_isSound_14 : decode cX9_isSound 14 = .ok (.istore 4, 2) := by decide +kernel
theorem dX9_isSound_16 : decode cX9_isSound 16 = .ok (.iload 4, 2) := by decide +kernel
theorem dX9_isSound_18 : decode cX9_isSound 18 = .ok (.ifCond .eq 186, 3) := by decide +kernel
theorem dX9_isSound_21 : decode cX9_isSound 21 = .ok (.iconst 0, 1) := by decide +kernel
theorem dX9_isSound_22 : decode cX9_isSound 22 = .ok (.istore 5, 2) := by decide +kernel
theorem dX9_isSound_24 : decode cX9_isSound 24 = .ok (.iconst 0, 1) := by decide +kernel
theorem dX9_isSound_25 : decode cX9_isSound 25 = .ok (.istore 6, 2) := by decide +kernel
theorem dX9_isSound_27 : decode cX9_isSound 27 = .ok (.iload 6, 2) := by decide +kernel
theorem dX9_isSound_29 : decode cX9_isSound 29 = .ok (.aload_n 0, 1) := by decide +kernel
theorem dX9_isSound_30 : decode cX9_isSound 30 = .ok (.getfield 108, 3) := by decide +kernel
theorem dX9_isSound_33 : decode cX9_isSound 33 = .ok (.if_icmp .ge 96, 3) := by decide +kernel
theorem dX9_isSound_36 : decode cX9_isSound 36 = .ok (.aload_n 0, 1) := by decide +kernel
theorem dX9_isSound_37 : decode cX9_isSound 37 = .ok (.iload 6, 2) := by decide +kernel
theorem dX9_isSound_39 : decode cX9_isSound 39 = .ok (.invokevirtual 133, 3) := by decide +kernel
theorem dX9_isSound_42 : decode cX9_isSound 42 = .ok (.istore 7, 2) := by decide +kernel
theorem dX9_isSound_44 : decode cX9_isSound 44 = .ok (.iconst 0, 1) := by decide +kernel
theorem dX9_isSound_45 : decode cX9_isSound 45 = .ok (.istore 8, 2) := by decide +kernel
theorem dX9_isSound_47 : decode cX9_isSound 47 = .ok (.iconst 0, 1) := by decide +kernel
theorem dX9_isSound_48 : decode cX9_isSound 48 = .ok (.istore 9, 2) := by decide +kernel
theorem dX9_isSound_50 : decode cX9_isSound 50 = .ok (.iload 9, 2) := by decide +kernel
theorem dX9_isSound_52 : decode cX9_isSound 52 = .ok (.aload_n 0, 1) := by decide +kernel
theorem dX9_isSound_53 : decode cX9_isSound 53 = .ok (.getfield 108, 3) := by decide +kernel
theorem dX9_isSound_56 : decode cX9_isSound 56 = .ok (.if_icmp .ge 36, 3) := by decide +kernel
theorem dX9_isSound_59 : decode cX9_isSound 59 = .ok (.iload 8, 2) := by decide +kernel
theorem dX9_isSound_61 : decode cX9_isSound 61 = .ok (.iload 7, 2) := by decide +kernel
theorem dX9_isSound_63 : decode cX9_isSound 63 = .ok (.iload 9, 2) := by decide +kernel
theorem dX9_isSound_65 : decode cX9_isSound 65 = .ok (.ishr, 1) := by decide +kernel
theorem dX9_isSound_66 : decode cX9_isSound 66 = .ok (.iconst 1, 1) := by decide +kernel
theorem dX9_isSound_67 : decode cX9_isSound 67 = .ok (.iand, 1) := by decide +kernel
theorem dX9_isSound_68 : decode cX9_isSound 68 = .ok (.iconst 1, 1) := by decide +kernel
theorem dX9_isSound_69 : decode cX9_isSound 69 = .ok (.if_icmp .ne 13, 3) := by decide +kernel
theorem dX9_isSound_72 : decode cX9_isSound 72 = .ok (.aload_n 0, 1) := by decide +kernel
theorem dX9_isSound_73 : decode cX9_isSound 73 = .ok (.getfield 41, 3) := by decide +kernel
theorem dX9_isSound_76 : decode cX9_isSound 76 = .ok (.iload 9, 2) := by decide +kernel
theorem dX9_isSound_78 : decode cX9_isSound 78 = .ok (.iaload, 1) := by decide +kernel
theorem dX9_isSound_79 : decode cX9_isSound 79 = .ok (.goto 4, 3) := by decide +kernel
theorem dX9_isSound_82 : decode cX9_isSound 82 = .ok (.iconst 0, 1) := by decide +kernel
theorem dX9_isSound_83 : decode cX9_isSound 83 = .ok (.ior, 1) := by decide +kernel
theorem dX9_isSound_84 : decode cX9_isSound 84 = .ok (.istore 8, 2) := by decide +kernel
theorem dX9_isSound_86 : decode cX9_isSound 86 = .ok (.iinc 9 1, 3) := by decide +kernel
theorem dX9_isSound_89 : decode cX9_isSound 89 = .ok (.goto (-39), 3) := by decide +kernel
theorem dX9_isSound_92 : decode cX9_isSound 92 = .ok (.iload 5, 2) := by decide +kernel
theorem dX9_isSound_94 : decode cX9_isSound 94 = .ok (.iload_n 1, 1) := by decide +kernel
theorem dX9_isSound_95 : decode cX9_isSound 95 = .ok (.iload 6, 2) := by decide +kernel
theorem dX9_isSound_97 : decode cX9_isSound 97 = .ok (.ishr, 1) := by decide +kernel
theorem dX9_isSound_98 : decode cX9_isSound 98 = .ok (.iconst 1, 1) := by decide +kernel
theorem dX9_isSound_99 : decode cX9_isSound 99 = .ok (.iand, 1) := by decide +kernel
theorem dX9_isSound_100 : decode cX9_isSound 100 = .ok (.ifCond .ne 19, 3) := by decide +kernel
theorem dX9_isSound_103 : decode cX9_isSound 103 = .ok (.iload 8, 2) := by decide +kernel
theorem dX9_isSound_105 : decode cX9_isSound 105 = .ok (.iload_n 1, 1) := by decide +kernel
theorem dX9_isSound_106 : decode cX9_isSound 106 = .ok (.iconst (-1), 1) := by decide +kernel
theorem dX9_isSound_107 : decode cX9_isSound 107 = .ok (.ixor, 1) := by decide +kernel
theorem dX9_isSound_108 : decode cX9_isSound 108 = .ok (.iand, 1) := by decide +kernel
theorem dX9_isSound_109 : decode cX9_isSound 109 = .ok (.ifCond .ne 10, 3) := by decide +kernel
theorem dX9_isSound_112 : decode cX9_isSound 112 = .ok (.iconst 1, 1) := by decide +kernel
theorem dX9_isSound_113 : decode cX9_isSound 113 = .ok (.iload 6, 2) := by decide +kernel
theorem dX9_isSound_115 : decode cX9_isSound 115 = .ok (.ishl, 1) := by decide +kernel
theorem dX9_isSound_116 : decode cX9_isSound 116 = .ok (.goto 4, 3) := by decide +kernel
theorem dX9_isSound_119 : decode cX9_isSound 119 = .ok (.iconst 0, 1) := by decide +kernel
theorem dX9_isSound_120 : decode cX9_isSound 120 = .ok (.ior, 1) := by decide +kernel
theorem dX9_isSound_121 : decode cX9_isSound 121 = .ok (.istore 5, 2) := by decide +kernel
theorem dX9_isSound_123 : decode cX9_isSound 123 = .ok (.iinc 6 1, 3) := by decide +kernel
theorem dX9_isSound_126 : decode cX9_isSound 126 = .ok (.goto (-99), 3) := by decide +kernel
theorem dX9_isSound_129 : decode cX9_isSound 129 = .ok (.iconst 0, 1) := by decide +kernel
theorem dX9_isSound_130 : decode cX9_isSound 130 = .ok (.istore 6, 2) := by decide +kernel
theorem dX9_isSound_132 : decode cX9_isSound 132 = .ok (.iload 6, 2) := by decide +kernel
theorem dX9_isSound_134 : decode cX9_isSound 134 = .ok (.aload_n 0, 1) := by decide +kernel
theorem dX9_isSound_135 : decode cX9_isSound 135 = .ok (.getfield 108, 3) := by decide +kernel
theorem dX9_isSound_138 : decode cX9_isSound 138 = .ok (.if_icmp .ge 38, 3) := by decide +kernel
theorem dX9_isSound_141 : decode cX9_isSound 141 = .ok (.aload_n 0, 1) := by decide +kernel
theorem dX9_isSound_142 : decode cX9_isSound 142 = .ok (.getfield 44, 3) := by decide +kernel
theorem dX9_isSound_145 : decode cX9_isSound 145 = .ok (.iload 6, 2) := by decide +kernel
theorem dX9_isSound_147 : decode cX9_isSound 147 = .ok (.iload 5, 2) := by decide +kernel
theorem dX9_isSound_149 : decode cX9_isSound 149 = .ok (.iload 6, 2) := by decide +kernel
theorem dX9_isSound_151 : decode cX9_isSound 151 = .ok (.ishr, 1) := by decide +kernel
theorem dX9_isSound_152 : decode cX9_isSound 152 = .ok (.iconst 1, 1) := by decide +kernel
theorem dX9_isSound_153 : decode cX9_isSound 153 = .ok (.iand, 1) := by decide +kernel
theorem dX9_isSound_154 : decode cX9_isSound 154 = .ok (.iconst 1, 1) := by decide +kernel
theorem dX9_isSound_155 : decode cX9_isSound 155 = .ok (.if_icmp .ne 7, 3) := by decide +kernel
theorem dX9_isSound_158 : decode cX9_isSound 158 = .ok (.iload_n 2, 1) := by decide +kernel
theorem dX9_isSound_159 : decode cX9_isSound 159 = .ok (.goto 10, 3) := by decide +kernel
theorem dX9_isSound_162 : decode cX9_isSound 162 = .ok (.aload_n 0, 1) := by decide +kernel
theorem dX9_isSound_163 : decode cX9_isSound 163 = .ok (.getfield 44, 3) := by decide +kernel
theorem dX9_isSound_166 : decode cX9_isSound 166 = .ok (.iload 6, 2) := by decide +kernel
theorem dX9_isSound_168 : decode cX9_isSound 168 = .ok (.iaload, 1) := by decide +kernel
theorem dX9_isSound_169 : decode cX9_isSound 169 = .ok (.iastore, 1) := by decide +kernel
theorem dX9_isSound_170 : decode cX9_isSound 170 = .ok (.iinc 6 1, 3) := by decide +kernel
theorem dX9_isSound_173 : decode cX9_isSound 173 = .ok (.goto (-41), 3) := by decide +kernel
theorem dX9_isSound_176 : decode cX9_isSound 176 = .ok (.iload_n 1, 1) := by decide +kernel
theorem dX9_isSound_177 : decode cX9_isSound 177 = .ok (.iload 5, 2) := by decide +kernel
theorem dX9_isSound_179 : decode cX9_isSound 179 = .ok (.ior, 1) := by decide +kernel
theorem dX9_isSound_180 : decode cX9_isSound 180 = .ok (.istore_n 1, 1) := by decide +kernel
theorem dX9_isSound_181 : decode cX9_isSound 181 = .ok (.iinc 2 1, 3) := by decide +kernel
theorem dX9_isSound_184 : decode cX9_isSound 184 = .ok (.iload 5, 2) := by decide +kernel
theorem dX9_isSound_186 : decode cX9_isSound 186 = .ok (.ifCond .eq 12, 3) := by decide +kernel
theorem dX9_isSound_189 : decode cX9_isSound 189 = .ok (.iload_n 1, 1) := by decide +kernel
theorem dX9_isSound_190 : decode cX9_isSound 190 = .ok (.iload_n 3, 1) := by decide +kernel
theorem dX9_isSound_191 : decode cX9_isSound 191 = .ok (.if_icmp .eq 7, 3) := by decide +kernel
theorem dX9_isSound_194 : decode cX9_isSound 194 = .ok (.iconst 1, 1) := by decide +kernel
theorem dX9_isSound_195 : decode cX9_isSound 195 = .ok (.goto 4, 3) := by decide +kernel
theorem dX9_isSound_198 : decode cX9_isSound 198 = .ok (.iconst 0, 1) := by decide +kernel
theorem dX9_isSound_199 : decode cX9_isSound 199 = .ok (.istore 4, 2) := by decide +kernel
theorem dX9_isSound_201 : decode cX9_isSound 201 = .ok (.goto (-185), 3) := by decide +kernel
theorem dX9_isSound_204 : decode cX9_isSound 204 = .ok (.iload_n 1, 1) := by decide +kernel
theorem dX9_isSound_205 : decode cX9_isSound 205 = .ok (.iload_n 3, 1) := by decide +kernel
theorem dX9_isSound_206 : decode cX9_isSound 206 = .ok (.if_icmp .ne 7, 3) := by decide +kernel
theorem dX9_isSound_209 : decode cX9_isSound 209 = .ok (.iconst 1, 1) := by decide +kernel
theorem dX9_isSound_210 : decode cX9_isSound 210 = .ok (.goto 4, 3) := by decide +kernel
theorem dX9_isSound_213 : decode cX9_isSound 213 = .ok (.iconst 0, 1) := by decide +kernel
theorem dX9_isSound_214 : decode cX9_isSound 214 = .ok (.ireturn, 1) := by decide +kernel
theorem dX9_laysBelow_0 : decode cX9_laysBelow 0 = .ok (.iconst 0, 1) := by decide +kernel
theorem dX9_laysBelow_1 : decode cX9_laysBelow 1 = .ok (.istore_n 1, 1) := by decide +kernel
theorem dX9_laysBelow_2 : decode cX9_laysBelow 2 = .ok (.iload_n 1, 1) := by decide +kernel
theorem dX9_laysBelow_3 : decode cX9_laysBelow 3 = .ok (.aload_n 0, 1) := by decide +kernel
theorem dX9_laysBelow_4 : decode cX9_laysBelow 4 = .ok (.getfield 108, 3) := by decide +kernel
theorem dX9_laysBelow_7 : decode cX9_laysBelow 7 = .ok (.if_icmp .ge 16, 3) := by decide +kernel
theorem dX9_laysBelow_10 : decode cX9_laysBelow 10 = .ok (.aload_n 0, 1) := by decide +kernel
theorem dX9_laysBelow_11 : decode cX9_laysBelow 11 = .ok (.getfield 47, 3) := by decide +kernel
theorem dX9_laysBelow_14 : decode cX9_laysBelow 14 = .ok (.iload_n 1, 1) := by decide +kernel
theorem dX9_laysBelow_15 : decode cX9_laysBelow 15 = .ok (.iconst 0, 1) := by decide +kernel
theorem dX9_laysBelow_16 : decode cX9_laysBelow 16 = .ok (.iastore, 1) := by decide +kernel
theorem dX9_laysBelow_17 : decode cX9_laysBelow 17 = .ok (.iinc 1 1, 3) := by decide +kernel
theorem dX9_laysBelow_20 : decode cX9_laysBelow 20 = .ok (.goto (-18), 3) := by decide +kernel
theorem dX9_laysBelow_23 : decode cX9_laysBelow 23 = .ok (.iconst 0, 1) := by decide +kernel
theorem dX9_laysBelow_24 : decode cX9_laysBelow 24 = .ok (.istore_n 1, 1) := by decide +kernel
theorem dX9_laysBelow_25 : decode cX9_laysBelow 25 = .ok (.iload_n 1, 1) := by decide +kernel
theorem dX9_laysBelow_26 : decode cX9_laysBelow 26 = .ok (.aload_n 0, 1) := by decide +kernel
theorem dX9_laysBelow_27 : decode cX9_laysBelow 27 = .ok (.getfield 108, 3) := by decide +kernel
theorem dX9_laysBelow_30 : decode cX9_laysBelow 30 = .ok (.if_icmp .ge 142, 3) := by decide +kernel
theorem dX9_laysBelow_33 : decode cX9_laysBelow 33 = .ok (.iconst 0, 1) := by decide +kernel
theorem dX9_laysBelow_34 : decode cX9_laysBelow 34 = .ok (.istore_n 2, 1) := by decide +kernel
theorem dX9_laysBelow_35 : decode cX9_laysBelow 35 = .ok (.iload_n 2, 1) := by decide +kernel
theorem dX9_laysBelow_36 : decode cX9_laysBelow 36 = .ok (.aload_n 0, 1) := by decide +kernel
theorem dX9_laysBelow_37 : decode cX9_laysBelow 37 = .ok (.getfield 108, 3) := by decide +kernel
theorem dX9_laysBelow_40 : decode cX9_laysBelow 40 = .ok (.if_icmp .ge 126, 3) := by decide +kernel
theorem dX9_laysBelow_43 : decode cX9_laysBelow 43 = .ok (.aload_n 0, 1) := by decide +kernel
theorem dX9_laysBelow_44 : decode cX9_laysBelow 44 = .ok (.getfield 44, 3) := by decide +kernel
theorem dX9_laysBelow_47 : decode cX9_laysBelow 47 = .ok (.iload_n 2, 1) := by decide +kernel
theorem dX9_laysBelow_48 : decode cX9_laysBelow 48 = .ok (.iaload, 1) := by decide +kernel
theorem dX9_laysBelow_49 : decode cX9_laysBelow 49 = .ok (.iload_n 1, 1) := by decide +kernel
theorem dX9_laysBelow_50 : decode cX9_laysBelow 50 = .ok (.if_icmp .ne 110, 3) := by decide +kernel
theorem dX9_laysBelow_53 : decode cX9_laysBelow 53 = .ok (.aload_n 0, 1) := by decide +kernel
theorem dX9_laysBelow_54 : decode cX9_laysBelow 54 = .ok (.iload_n 2, 1) := by decide +kernel
theorem dX9_laysBelow_55 : decode cX9_laysBelow 55 = .ok (.invokevirtual 133, 3) := by decide +kernel
theorem dX9_laysBelow_58 : decode cX9_laysBelow 58 = .ok (.istore_n 3, 1) := by decide +kernel
theorem dX9_laysBelow_59 : decode cX9_laysBelow 59 = .ok (.iconst 0, 1) := by decide +kernel
theorem dX9_laysBelow_60 : decode cX9_laysBelow 60 = .ok (.istore 4, 2) := by decide +kernel
theorem dX9_laysBelow_62 : decode cX9_laysBelow 62 = .ok (.iload 4, 2) := by decide +kernel
theorem dX9_laysBelow_64 : decode cX9_laysBelow 64 = .ok (.aload_n 0, 1) := by decide +kernel
theorem dX9_laysBelow_65 : decode cX9_laysBelow 65 = .ok (.getfield 108, 3) := by decide +kernel
theorem dX9_laysBelow_68 : decode cX9_laysBelow 68 = .ok (.if_icmp .ge 92, 3) := by decide +kernel
theorem dX9_laysBelow_71 : decode cX9_laysBelow 71 = .ok (.iconst 0, 1) := by decide +kernel
theorem dX9_laysBelow_72 : decode cX9_laysBelow 72 = .ok (.istore 5, 2) := by decide +kernel
theorem dX9_laysBelow_74 : decode cX9_laysBelow 74 = .ok (.iload 5, 2) := by decide +kernel
theorem dX9_laysBelow_76 : decode cX9_laysBelow 76 = .ok (.aload_n 0, 1) := by decide +kernel
theorem dX9_laysBelow_77 : decode cX9_laysBelow 77 = .ok (.getfield 108, 3) := by decide +kernel
theorem dX9_laysBelow_80 : decode cX9_laysBelow 80 = .ok (.if_icmp .ge 74, 3) := by decide +kernel
theorem dX9_laysBelow_83 : decode cX9_laysBelow 83 = .ok (.iload_n 3, 1) := by decide +kernel
theorem dX9_laysBelow_84 : decode cX9_laysBelow 84 = .ok (.iload 4, 2) := by decide +kernel
theorem dX9_laysBelow_86 : decode cX9_laysBelow 86 = .ok (.ishr, 1) := by decide +kernel
theorem dX9_laysBelow_87 : decode cX9_laysBelow 87 = .ok (.iconst 1, 1) := by decide +kernel
theorem dX9_laysBelow_88 : decode cX9_laysBelow 88 = .ok (.iand, 1) := by decide +kernel
theorem dX9_laysBelow_89 : decode cX9_laysBelow 89 = .ok (.iconst 1, 1) := by decide +kernel
theorem dX9_laysBelow_90 : decode cX9_laysBelow 90 = .ok (.if_icmp .ne 23, 3) := by decide +kernel
theorem dX9_laysBelow_93 : decode cX9_laysBelow 93 = .ok (.aload_n 0, 1) := by decide +kernel
theorem dX9_laysBelow_94 : decode cX9_laysBelow 94 = .ok (.getfield 41, 3) := by decide +kernel
theorem dX9_laysBelow_97 : decode cX9_laysBelow 97 = .ok (.iload 4, 2) := by decide +kernel
theorem dX9_laysBelow_99 : decode cX9_laysBelow 99 = .ok (.iaload, 1) := by decide +kernel
theorem dX9_laysBelow_100 : decode cX9_laysBelow 100 = .ok (.iload 5, 2) := by decide +kernel
theorem dX9_laysBelow_102 : decode cX9_laysBelow 102 = .ok (.ishr, 1) := by decide +kernel
theorem dX9_laysBelow_103 : decode cX9_laysBelow 103 = .ok (.iconst 1, 1) := by decide +kernel
theorem dX9_laysBelow_104 : decode cX9_laysBelow 104 = .ok (.iand, 1) := by decide +kernel
theorem dX9_laysBelow_105 : decode cX9_laysBelow 105 = .ok (.iconst 1, 1) := by decide +kernel
theorem dX9_laysBelow_106 : decode cX9_laysBelow 106 = .ok (.if_icmp .ne 7, 3) := by decide +kernel
theorem dX9_laysBelow_109 : decode cX9_laysBelow 109 = .ok (.iconst 1, 1) := by decide +kernel
theorem dX9_laysBelow_110 : decode cX9_laysBelow 110 = .ok (.goto 4, 3) := by decide +kernel
theorem dX9_laysBelow_113 : decode cX9_laysBelow 113 = .ok (.iconst 0, 1) := by decide +kernel
theorem dX9_laysBelow_114 : decode cX9_laysBelow 114 = .ok (.istore 6, 2) := by decide +kernel
theorem dX9_laysBelow_116 : decode cX9_laysBelow 116 = .ok (.aload_n 0, 1) := by decide +kernel
theorem dX9_laysBelow_117 : decode cX9_laysBelow 117 = .ok (.getfield 47, 3) := by decide +kernel
theorem dX9_laysBelow_120 : decode cX9_laysBelow 120 = .ok (.iload_n 2, 1) := by decide +kernel
theorem dX9_laysBelow_121 : decode cX9_laysBelow 121 = .ok (.dup2, 1) := by decide +kernel
theorem dX9_laysBelow_122 : decode cX9_laysBelow 122 = .ok (.iaload, 1) := by decide +kernel
theorem dX9_laysBelow_123 : decode cX9_laysBelow 123 = .ok (.iload 6, 2) := by decide +kernel
theorem dX9_laysBelow_125 : decode cX9_laysBelow 125 = .ok (.ifCond .eq 20, 3) := by decide +kernel
theorem dX9_laysBelow_128 : decode cX9_laysBelow 128 = .ok (.aload_n 0, 1) := by decide +kernel
theorem dX9_laysBelow_129 : decode cX9_laysBelow 129 = .ok (.iload 5, 2) := by decide +kernel
theorem dX9_laysBelow_131 : decode cX9_laysBelow 131 = .ok (.invokevirtual 133, 3) := by decide +kernel
theorem dX9_laysBelow_134 : decode cX9_laysBelow 134 = .ok (.aload_n 0, 1) := by decide +kernel
theorem dX9_laysBelow_135 : decode cX9_laysBelow 135 = .ok (.getfield 47, 3) := by decide +kernel
theorem dX9_laysBelow_138 : decode cX9_laysBelow 138 = .ok (.iload 5, 2) := by decide +kernel
theorem dX9_laysBelow_140 : decode cX9_laysBelow 140 = .ok (.iaload, 1) := by decide +kernel
theorem dX9_laysBelow_141 : decode cX9_laysBelow 141 = .ok (.ior, 1) := by decide +kernel
theorem dX9_laysBelow_142 : decode cX9_laysBelow 142 = .ok (.goto 4, 3) := by decide +kernel
theorem dX9_laysBelow_145 : decode cX9_laysBelow 145 = .ok (.iconst 0, 1) := by decide +kernel
theorem dX9_laysBelow_146 : decode cX9_laysBelow 146 = .ok (.ior, 1) := by decide +kernel
theorem dX9_laysBelow_147 : decode cX9_laysBelow 147 = .ok (.iastore, 1) := by decide +kernel
theorem dX9_laysBelow_148 : decode cX9_laysBelow 148 = .ok (.iinc 5 1, 3) := by decide +kernel
theorem dX9_laysBelow_151 : decode cX9_laysBelow 151 = .ok (.goto (-77), 3) := by decide +kernel
theorem dX9_laysBelow_154 : decode cX9_laysBelow 154 = .ok (.iinc 4 1, 3) := by decide +kernel
theorem dX9_laysBelow_157 : decode cX9_laysBelow 157 = .ok (.goto (-95), 3) := by decide +kernel
theorem dX9_laysBelow_160 : decode cX9_laysBelow 160 = .ok (.iinc 2 1, 3) := by decide +kernel
theorem dX9_laysBelow_163 : decode cX9_laysBelow 163 = .ok (.goto (-128), 3) := by decide +kernel
theorem dX9_laysBelow_166 : decode cX9_laysBelow 166 = .ok (.iinc 1 1, 3) := by decide +kernel
theorem dX9_laysBelow_169 : decode cX9_laysBelow 169 = .ok (.goto (-144), 3) := by decide +kernel
theorem dX9_laysBelow_172 : decode cX9_laysBelow 172 = .ok (.return_, 1) := by decide +kernel
theorem dX9_knownBy_0 : decode cX9_knownBy 0 = .ok (.aload_n 0, 1) := by decide +kernel
theorem dX9_knownBy_1 : decode cX9_knownBy 1 = .ok (.iload_n 1, 1) := by decide +kernel
theorem dX9_knownBy_2 : decode cX9_knownBy 2 = .ok (.iconst 0, 1) := by decide +kernel
theorem dX9_knownBy_3 : decode cX9_knownBy 3 = .ok (.bipush (-9), 2) := by decide +kernel
theorem dX9_knownBy_5 : decode cX9_knownBy 5 = .ok (.iconst 0, 1) := by decide +kernel
theorem dX9_knownBy_6 : decode cX9_knownBy 6 = .ok (.invokevirtual 136, 3) := by decide +kernel
theorem dX9_knownBy_9 : decode cX9_knownBy 9 = .ok (.aload_n 0, 1) := by decide +kernel
theorem dX9_knownBy_10 : decode cX9_knownBy 10 = .ok (.invokevirtual 139, 3) := by decide +kernel
theorem dX9_knownBy_13 : decode cX9_knownBy 13 = .ok (.ifCond .ne 5, 3) := by decide +kernel
theorem dX9_knownBy_16 : decode cX9_knownBy 16 = .ok (.iconst 4, 1) := by decide +kernel
theorem dX9_knownBy_17 : decode cX9_knownBy 17 = .ok (.ireturn, 1) := by decide +kernel
theorem dX9_knownBy_18 : decode cX9_knownBy 18 = .ok (.aload_n 0, 1) := by decide +kernel
theorem dX9_knownBy_19 : decode cX9_knownBy 19 = .ok (.invokevirtual 142, 3) := by decide +kernel
theorem dX9_knownBy_22 : decode cX9_knownBy 22 = .ok (.aload_n 0, 1) := by decide +kernel
theorem dX9_knownBy_23 : decode cX9_knownBy 23 = .ok (.getfield 38, 3) := by decide +kernel
theorem dX9_knownBy_26 : decode cX9_knownBy 26 = .ok (.iload_n 2, 1) := by decide +kernel
theorem dX9_knownBy_27 : decode cX9_knownBy 27 = .ok (.iaload, 1) := by decide +kernel
theorem dX9_knownBy_28 : decode cX9_knownBy 28 = .ok (.aload_n 0, 1) := by decide +kernel
theorem dX9_knownBy_29 : decode cX9_knownBy 29 = .ok (.getfield 38, 3) := by decide +kernel
theorem dX9_knownBy_32 : decode cX9_knownBy 32 = .ok (.iload_n 3, 1) := by decide +kernel
theorem dX9_knownBy_33 : decode cX9_knownBy 33 = .ok (.iaload, 1) := by decide +kernel
theorem dX9_knownBy_34 : decode cX9_knownBy 34 = .ok (.if_icmp .ne 7, 3) := by decide +kernel
theorem dX9_knownBy_37 : decode cX9_knownBy 37 = .ok (.iconst 2, 1) := by decide +kernel
theorem dX9_knownBy_38 : decode cX9_knownBy 38 = .ok (.goto 40, 3) := by decide +kernel
theorem dX9_knownBy_41 : decode cX9_knownBy 41 = .ok (.aload_n 0, 1) := by decide +kernel
theorem dX9_knownBy_42 : decode cX9_knownBy 42 = .ok (.getfield 47, 3) := by decide +kernel
theorem dX9_knownBy_45 : decode cX9_knownBy 45 = .ok (.iload_n 3, 1) := by decide +kernel
theorem dX9_knownBy_46 : decode cX9_knownBy 46 = .ok (.iaload, 1) := by decide +kernel
theorem dX9_knownBy_47 : decode cX9_knownBy 47 = .ok (.iload_n 2, 1) := by decide +kernel
theorem dX9_knownBy_48 : decode cX9_knownBy 48 = .ok (.ishr, 1) := by decide +kernel
theorem dX9_knownBy_49 : decode cX9_knownBy 49 = .ok (.iconst 1, 1) := by decide +kernel
theorem dX9_knownBy_50 : decode cX9_knownBy 50 = .ok (.iand, 1) := by decide +kernel
theorem dX9_knownBy_51 : decode cX9_knownBy 51 = .ok (.iconst 1, 1) := by decide +kernel
theorem dX9_knownBy_52 : decode cX9_knownBy 52 = .ok (.if_icmp .ne 7, 3) := by decide +kernel
theorem dX9_knownBy_55 : decode cX9_knownBy 55 = .ok (.iconst 1, 1) := by decide +kernel
theorem dX9_knownBy_56 : decode cX9_knownBy 56 = .ok (.goto 22, 3) := by decide +kernel
theorem dX9_knownBy_59 : decode cX9_knownBy 59 = .ok (.aload_n 0, 1) := by decide +kernel
theorem dX9_knownBy_60 : decode cX9_knownBy 60 = .ok (.getfield 47, 3) := by decide +kernel
theorem dX9_knownBy_63 : decode cX9_knownBy 63 = .ok (.iload_n 2, 1) := by decide +kernel
theorem dX9_knownBy_64 : decode cX9_knownBy 64 = .ok (.iaload, 1) := by decide +kernel
theorem dX9_knownBy_65 : decode cX9_knownBy 65 = .ok (.iload_n 3, 1) := by decide +kernel
theorem dX9_knownBy_66 : decode cX9_knownBy 66 = .ok (.ishr, 1) := by decide +kernel
theorem dX9_knownBy_67 : decode cX9_knownBy 67 = .ok (.iconst 1, 1) := by decide +kernel
theorem dX9_knownBy_68 : decode cX9_knownBy 68 = .ok (.iand, 1) := by decide +kernel
theorem dX9_knownBy_69 : decode cX9_knownBy 69 = .ok (.iconst 1, 1) := by decide +kernel
theorem dX9_knownBy_70 : decode cX9_knownBy 70 = .ok (.if_icmp .ne 7, 3) := by decide +kernel
theorem dX9_knownBy_73 : decode cX9_knownBy 73 = .ok (.iconst 3, 1) := by decide +kernel
theorem dX9_knownBy_74 : decode cX9_knownBy 74 = .ok (.goto 4, 3) := by decide +kernel
theorem dX9_knownBy_77 : decode cX9_knownBy 77 = .ok (.iconst 0, 1) := by decide +kernel
theorem dX9_knownBy_78 : decode cX9_knownBy 78 = .ok (.ireturn, 1) := by decide +kernel
theorem dX9_clause_0 : decode cX9_clause 0 = .ok (.aload_n 0, 1) := by decide +kernel
theorem dX9_clause_1 : decode cX9_clause 1 = .ok (.iconst 0, 1) := by decide +kernel
theorem dX9_clause_2 : decode cX9_clause 2 = .ok (.putfield 63, 3) := by decide +kernel
theorem dX9_clause_5 : decode cX9_clause 5 = .ok (.aload_n 0, 1) := by decide +kernel
theorem dX9_clause_6 : decode cX9_clause 6 = .ok (.iload_n 1, 1) := by decide +kernel
theorem dX9_clause_7 : decode cX9_clause 7 = .ok (.invokevirtual 145, 3) := by decide +kernel
theorem dX9_clause_10 : decode cX9_clause 10 = .ok (.ifCond .eq 12, 3) := by decide +kernel
theorem dX9_clause_13 : decode cX9_clause 13 = .ok (.iload_n 2, 1) := by decide +kernel
theorem dX9_clause_14 : decode cX9_clause 14 = .ok (.iconst 0, 1) := by decide +kernel
theorem dX9_clause_15 : decode cX9_clause 15 = .ok (.iconst 2, 1) := by decide +kernel
theorem dX9_clause_16 : decode cX9_clause 16 = .ok (.invokestatic 66, 3) := by decide +kernel
theorem dX9_clause_19 : decode cX9_clause 19 = .ok (.ifCond .ne 5, 3) := by decide +kernel
theorem dX9_clause_22 : decode cX9_clause 22 = .ok (.iconst (-1), 1) := by decide +kernel
