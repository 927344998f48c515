theorem dX9_clause_23 : decode cX9_clause 23 = .ok (.ireturn, 1) := by decide +kernel
theorem dX9_clause_24 : decode cX9_clause 24 = .ok (.iload_n 2, 1) := by decide +kernel
theorem dX9_clause_25 : decode cX9_clause 25 = .ok (.iconst 2, 1) := by decide +kernel
theorem dX9_clause_26 : decode cX9_clause 26 = .ok (.if_icmp .ge 16, 3) := by decide +kernel
theorem dX9_clause_29 : decode cX9_clause 29 = .ok (.aload_n 0, 1) := by decide +kernel
theorem dX9_clause_30 : decode cX9_clause 30 = .ok (.getfield 7, 3) := by decide +kernel
theorem dX9_clause_33 : decode cX9_clause 33 = .ok (.iconst 2, 1) := by decide +kernel
theorem dX9_clause_34 : decode cX9_clause 34 = .ok (.iconst 2, 1) := by decide +kernel
theorem dX9_clause_35 : decode cX9_clause 35 = .ok (.iload_n 1, 1) := by decide +kernel
theorem dX9_clause_36 : decode cX9_clause 36 = .ok (.imul, 1) := by decide +kernel
theorem dX9_clause_37 : decode cX9_clause 37 = .ok (.iadd, 1) := by decide +kernel
theorem dX9_clause_38 : decode cX9_clause 38 = .ok (.iload_n 2, 1) := by decide +kernel
theorem dX9_clause_39 : decode cX9_clause 39 = .ok (.iadd, 1) := by decide +kernel
theorem dX9_clause_40 : decode cX9_clause 40 = .ok (.iaload, 1) := by decide +kernel
theorem dX9_clause_41 : decode cX9_clause 41 = .ok (.ireturn, 1) := by decide +kernel
theorem dX9_clause_42 : decode cX9_clause 42 = .ok (.iconst 0, 1) := by decide +kernel
theorem dX9_clause_43 : decode cX9_clause 43 = .ok (.istore_n 3, 1) := by decide +kernel
theorem dX9_clause_44 : decode cX9_clause 44 = .ok (.aload_n 0, 1) := by decide +kernel
theorem dX9_clause_45 : decode cX9_clause 45 = .ok (.iload_n 3, 1) := by decide +kernel
theorem dX9_clause_46 : decode cX9_clause 46 = .ok (.iconst 0, 1) := by decide +kernel
theorem dX9_clause_47 : decode cX9_clause 47 = .ok (.invokevirtual 118, 3) := by decide +kernel
theorem dX9_clause_50 : decode cX9_clause 50 = .ok (.iload_n 1, 1) := by decide +kernel
theorem dX9_clause_51 : decode cX9_clause 51 = .ok (.if_icmp .eq 9, 3) := by decide +kernel
theorem dX9_clause_54 : decode cX9_clause 54 = .ok (.iinc 3 1, 3) := by decide +kernel
theorem dX9_clause_57 : decode cX9_clause 57 = .ok (.goto (-13), 3) := by decide +kernel
theorem dX9_clause_60 : decode cX9_clause 60 = .ok (.iload_n 3, 1) := by decide +kernel
theorem dX9_clause_61 : decode cX9_clause 61 = .ok (.ireturn, 1) := by decide +kernel
theorem dX9_statement_0 : decode cX9_statement 0 = .ok (.aload_n 0, 1) := by decide +kernel
theorem dX9_statement_1 : decode cX9_statement 1 = .ok (.iconst 0, 1) := by decide +kernel
theorem dX9_statement_2 : decode cX9_statement 2 = .ok (.putfield 63, 3) := by decide +kernel
theorem dX9_statement_5 : decode cX9_statement 5 = .ok (.aload_n 0, 1) := by decide +kernel
theorem dX9_statement_6 : decode cX9_statement 6 = .ok (.iload_n 1, 1) := by decide +kernel
theorem dX9_statement_7 : decode cX9_statement 7 = .ok (.invokevirtual 148, 3) := by decide +kernel
theorem dX9_statement_10 : decode cX9_statement 10 = .ok (.ifCond .eq 21, 3) := by decide +kernel
theorem dX9_statement_13 : decode cX9_statement 13 = .ok (.iload_n 2, 1) := by decide +kernel
theorem dX9_statement_14 : decode cX9_statement 14 = .ok (.iconst 0, 1) := by decide +kernel
theorem dX9_statement_15 : decode cX9_statement 15 = .ok (.iconst 3, 1) := by decide +kernel
theorem dX9_statement_16 : decode cX9_statement 16 = .ok (.invokestatic 66, 3) := by decide +kernel
theorem dX9_statement_19 : decode cX9_statement 19 = .ok (.ifCond .eq 12, 3) := by decide +kernel
theorem dX9_statement_22 : decode cX9_statement 22 = .ok (.aload_n 0, 1) := by decide +kernel
theorem dX9_statement_23 : decode cX9_statement 23 = .ok (.iload_n 1, 1) := by decide +kernel
theorem dX9_statement_24 : decode cX9_statement 24 = .ok (.iload_n 2, 1) := by decide +kernel
theorem dX9_statement_25 : decode cX9_statement 25 = .ok (.invokevirtual 118, 3) := by decide +kernel
theorem dX9_statement_28 : decode cX9_statement 28 = .ok (.goto 4, 3) := by decide +kernel
theorem dX9_statement_31 : decode cX9_statement 31 = .ok (.iconst (-1), 1) := by decide +kernel
theorem dX9_statement_32 : decode cX9_statement 32 = .ok (.ireturn, 1) := by decide +kernel
theorem dX9_sound_0 : decode cX9_sound 0 = .ok (.aload_n 0, 1) := by decide +kernel
theorem dX9_sound_1 : decode cX9_sound 1 = .ok (.iconst 0, 1) := by decide +kernel
theorem dX9_sound_2 : decode cX9_sound 2 = .ok (.putfield 63, 3) := by decide +kernel
theorem dX9_sound_5 : decode cX9_sound 5 = .ok (.aload_n 0, 1) := by decide +kernel
theorem dX9_sound_6 : decode cX9_sound 6 = .ok (.aload_n 0, 1) := by decide +kernel
theorem dX9_sound_7 : decode cX9_sound 7 = .ok (.invokevirtual 151, 3) := by decide +kernel
theorem dX9_sound_10 : decode cX9_sound 10 = .ok (.iconst 0, 1) := by decide +kernel
theorem dX9_sound_11 : decode cX9_sound 11 = .ok (.bipush (-9), 2) := by decide +kernel
theorem dX9_sound_13 : decode cX9_sound 13 = .ok (.iconst 0, 1) := by decide +kernel
theorem dX9_sound_14 : decode cX9_sound 14 = .ok (.invokevirtual 136, 3) := by decide +kernel
theorem dX9_sound_17 : decode cX9_sound 17 = .ok (.aload_n 0, 1) := by decide +kernel
theorem dX9_sound_18 : decode cX9_sound 18 = .ok (.invokevirtual 139, 3) := by decide +kernel
theorem dX9_sound_21 : decode cX9_sound 21 = .ok (.ifCond .eq 7, 3) := by decide +kernel
theorem dX9_sound_24 : decode cX9_sound 24 = .ok (.iconst 1, 1) := by decide +kernel
theorem dX9_sound_25 : decode cX9_sound 25 = .ok (.goto 4, 3) := by decide +kernel
theorem dX9_sound_28 : decode cX9_sound 28 = .ok (.iconst 0, 1) := by decide +kernel
theorem dX9_sound_29 : decode cX9_sound 29 = .ok (.ireturn, 1) := by decide +kernel
theorem dX9_ones_0 : decode cX9_ones 0 = .ok (.iconst 0, 1) := by decide +kernel
theorem dX9_ones_1 : decode cX9_ones 1 = .ok (.istore_n 1, 1) := by decide +kernel
theorem dX9_ones_2 : decode cX9_ones 2 = .ok (.iconst 0, 1) := by decide +kernel
theorem dX9_ones_3 : decode cX9_ones 3 = .ok (.istore_n 2, 1) := by decide +kernel
theorem dX9_ones_4 : decode cX9_ones 4 = .ok (.iload_n 2, 1) := by decide +kernel
theorem dX9_ones_5 : decode cX9_ones 5 = .ok (.bipush 14, 2) := by decide +kernel
theorem dX9_ones_7 : decode cX9_ones 7 = .ok (.if_icmp .ge 17, 3) := by decide +kernel
theorem dX9_ones_10 : decode cX9_ones 10 = .ok (.iload_n 1, 1) := by decide +kernel
theorem dX9_ones_11 : decode cX9_ones 11 = .ok (.iload_n 0, 1) := by decide +kernel
theorem dX9_ones_12 : decode cX9_ones 12 = .ok (.iload_n 2, 1) := by decide +kernel
theorem dX9_ones_13 : decode cX9_ones 13 = .ok (.ishr, 1) := by decide +kernel
theorem dX9_ones_14 : decode cX9_ones 14 = .ok (.iconst 1, 1) := by decide +kernel
theorem dX9_ones_15 : decode cX9_ones 15 = .ok (.iand, 1) := by decide +kernel
theorem dX9_ones_16 : decode cX9_ones 16 = .ok (.iadd, 1) := by decide +kernel
theorem dX9_ones_17 : decode cX9_ones 17 = .ok (.istore_n 1, 1) := by decide +kernel
theorem dX9_ones_18 : decode cX9_ones 18 = .ok (.iinc 2 1, 3) := by decide +kernel
theorem dX9_ones_21 : decode cX9_ones 21 = .ok (.goto (-17), 3) := by decide +kernel
theorem dX9_ones_24 : decode cX9_ones 24 = .ok (.iload_n 1, 1) := by decide +kernel
theorem dX9_ones_25 : decode cX9_ones 25 = .ok (.ireturn, 1) := by decide +kernel
theorem dX9_clash_0 : decode cX9_clash 0 = .ok (.aload_n 0, 1) := by decide +kernel
theorem dX9_clash_1 : decode cX9_clash 1 = .ok (.iconst 0, 1) := by decide +kernel
theorem dX9_clash_2 : decode cX9_clash 2 = .ok (.putfield 63, 3) := by decide +kernel
theorem dX9_clash_5 : decode cX9_clash 5 = .ok (.iload_n 1, 1) := by decide +kernel
theorem dX9_clash_6 : decode cX9_clash 6 = .ok (.iconst 0, 1) := by decide +kernel
theorem dX9_clash_7 : decode cX9_clash 7 = .ok (.iconst 1, 1) := by decide +kernel
theorem dX9_clash_8 : decode cX9_clash 8 = .ok (.invokestatic 66, 3) := by decide +kernel
theorem dX9_clash_11 : decode cX9_clash 11 = .ok (.ifCond .ne 5, 3) := by decide +kernel
theorem dX9_clash_14 : decode cX9_clash 14 = .ok (.iconst (-1), 1) := by decide +kernel
theorem dX9_clash_15 : decode cX9_clash 15 = .ok (.ireturn, 1) := by decide +kernel
theorem dX9_clash_16 : decode cX9_clash 16 = .ok (.aload_n 0, 1) := by decide +kernel
theorem dX9_clash_17 : decode cX9_clash 17 = .ok (.aload_n 0, 1) := by decide +kernel
theorem dX9_clash_18 : decode cX9_clash 18 = .ok (.invokevirtual 151, 3) := by decide +kernel
theorem dX9_clash_21 : decode cX9_clash 21 = .ok (.iconst 0, 1) := by decide +kernel
theorem dX9_clash_22 : decode cX9_clash 22 = .ok (.bipush (-9), 2) := by decide +kernel
theorem dX9_clash_24 : decode cX9_clash 24 = .ok (.iconst 0, 1) := by decide +kernel
theorem dX9_clash_25 : decode cX9_clash 25 = .ok (.invokevirtual 136, 3) := by decide +kernel
theorem dX9_clash_28 : decode cX9_clash 28 = .ok (.aload_n 0, 1) := by decide +kernel
theorem dX9_clash_29 : decode cX9_clash 29 = .ok (.invokevirtual 139, 3) := by decide +kernel
theorem dX9_clash_32 : decode cX9_clash 32 = .ok (.ifCond .eq 6, 3) := by decide +kernel
theorem dX9_clash_35 : decode cX9_clash 35 = .ok (.bipush (-9), 2) := by decide +kernel
theorem dX9_clash_37 : decode cX9_clash 37 = .ok (.ireturn, 1) := by decide +kernel
theorem dX9_clash_38 : decode cX9_clash 38 = .ok (.iconst 1, 1) := by decide +kernel
theorem dX9_clash_39 : decode cX9_clash 39 = .ok (.istore_n 2, 1) := by decide +kernel
theorem dX9_clash_40 : decode cX9_clash 40 = .ok (.iload_n 2, 1) := by decide +kernel
theorem dX9_clash_41 : decode cX9_clash 41 = .ok (.aload_n 0, 1) := by decide +kernel
theorem dX9_clash_42 : decode cX9_clash 42 = .ok (.getfield 7, 3) := by decide +kernel
theorem dX9_clash_45 : decode cX9_clash 45 = .ok (.iconst 1, 1) := by decide +kernel
theorem dX9_clash_46 : decode cX9_clash 46 = .ok (.iaload, 1) := by decide +kernel
theorem dX9_clash_47 : decode cX9_clash 47 = .ok (.if_icmp .ge 59, 3) := by decide +kernel
theorem dX9_clash_50 : decode cX9_clash 50 = .ok (.iconst 1, 1) := by decide +kernel
theorem dX9_clash_51 : decode cX9_clash 51 = .ok (.istore_n 3, 1) := by decide +kernel
theorem dX9_clash_52 : decode cX9_clash 52 = .ok (.iload_n 3, 1) := by decide +kernel
theorem dX9_clash_53 : decode cX9_clash 53 = .ok (.aload_n 0, 1) := by decide +kernel
theorem dX9_clash_54 : decode cX9_clash 54 = .ok (.invokevirtual 151, 3) := by decide +kernel
theorem dX9_clash_57 : decode cX9_clash 57 = .ok (.if_icmp .ge 43, 3) := by decide +kernel
theorem dX9_clash_60 : decode cX9_clash 60 = .ok (.iload_n 3, 1) := by decide +kernel
theorem dX9_clash_61 : decode cX9_clash 61 = .ok (.invokestatic 154, 3) := by decide +kernel
theorem dX9_clash_64 : decode cX9_clash 64 = .ok (.iload_n 2, 1) := by decide +kernel
theorem dX9_clash_65 : decode cX9_clash 65 = .ok (.if_icmp .ne 29, 3) := by decide +kernel
theorem dX9_clash_68 : decode cX9_clash 68 = .ok (.aload_n 0, 1) := by decide +kernel
theorem dX9_clash_69 : decode cX9_clash 69 = .ok (.iload_n 3, 1) := by decide +kernel
theorem dX9_clash_70 : decode cX9_clash 70 = .ok (.iconst 0, 1) := by decide +kernel
theorem dX9_clash_71 : decode cX9_clash 71 = .ok (.bipush (-9), 2) := by decide +kernel
theorem dX9_clash_73 : decode cX9_clash 73 = .ok (.iconst 0, 1) := by decide +kernel
theorem dX9_clash_74 : decode cX9_clash 74 = .ok (.invokevirtual 136, 3) := by decide +kernel
theorem dX9_clash_77 : decode cX9_clash 77 = .ok (.aload_n 0, 1) := by decide +kernel
theorem dX9_clash_78 : decode cX9_clash 78 = .ok (.invokevirtual 139, 3) := by decide +kernel
theorem dX9_clash_81 : decode cX9_clash 81 = .ok (.ifCond .ne 13, 3) := by decide +kernel
theorem dX9_clash_84 : decode cX9_clash 84 = .ok (.iload_n 1, 1) := by decide +kernel
theorem dX9_clash_85 : decode cX9_clash 85 = .ok (.ifCond .ne 7, 3) := by decide +kernel
theorem dX9_clash_88 : decode cX9_clash 88 = .ok (.iload_n 3, 1) := by decide +kernel
theorem dX9_clash_89 : decode cX9_clash 89 = .ok (.goto 4, 3) := by decide +kernel
theorem dX9_clash_92 : decode cX9_clash 92 = .ok (.iload_n 2, 1) := by decide +kernel
theorem dX9_clash_93 : decode cX9_clash 93 = .ok (.ireturn, 1) := by decide +kernel
theorem dX9_clash_94 : decode cX9_clash 94 = .ok (.iinc 3 1, 3) := by decide +kernel
theorem dX9_clash_97 : decode cX9_clash 97 = .ok (.goto (-45), 3) := by decide +kernel
theorem dX9_clash_100 : decode cX9_clash 100 = .ok (.iinc 2 1, 3) := by decide +kernel
theorem dX9_clash_103 : decode cX9_clash 103 = .ok (.goto (-63), 3) := by decide +kernel
theorem dX9_clash_106 : decode cX9_clash 106 = .ok (.iload_n 1, 1) := by decide +kernel
theorem dX9_clash_107 : decode cX9_clash 107 = .ok (.ifCond .ne 10, 3) := by decide +kernel
theorem dX9_clash_110 : decode cX9_clash 110 = .ok (.aload_n 0, 1) := by decide +kernel
theorem dX9_clash_111 : decode cX9_clash 111 = .ok (.invokevirtual 151, 3) := by decide +kernel
theorem dX9_clash_114 : decode cX9_clash 114 = .ok (.goto 9, 3) := by decide +kernel
theorem dX9_clash_117 : decode cX9_clash 117 = .ok (.aload_n 0, 1) := by decide +kernel
theorem dX9_clash_118 : decode cX9_clash 118 = .ok (.getfield 7, 3) := by decide +kernel
theorem dX9_clash_121 : decode cX9_clash 121 = .ok (.iconst 1, 1) := by decide +kernel
theorem dX9_clash_122 : decode cX9_clash 122 = .ok (.iaload, 1) := by decide +kernel
theorem dX9_clash_123 : decode cX9_clash 123 = .ok (.ireturn, 1) := by decide +kernel
theorem dX9_known_0 : decode cX9_known 0 = .ok (.aload_n 0, 1) := by decide +kernel
theorem dX9_known_1 : decode cX9_known 1 = .ok (.iconst 0, 1) := by decide +kernel
theorem dX9_known_2 : decode cX9_known 2 = .ok (.putfield 63, 3) := by decide +kernel
theorem dX9_known_5 : decode cX9_known 5 = .ok (.aload_n 0, 1) := by decide +kernel
theorem dX9_known_6 : decode cX9_known 6 = .ok (.iload_n 1, 1) := by decide +kernel
theorem dX9_known_7 : decode cX9_known 7 = .ok (.invokevirtual 70, 3) := by decide +kernel
theorem dX9_known_10 : decode cX9_known 10 = .ok (.ifCond .eq 24, 3) := by decide +kernel
theorem dX9_known_13 : decode cX9_known 13 = .ok (.aload_n 0, 1) := by decide +kernel
theorem dX9_known_14 : decode cX9_known 14 = .ok (.iload_n 2, 1) := by decide +kernel
theorem dX9_known_15 : decode cX9_known 15 = .ok (.invokevirtual 70, 3) := by decide +kernel
theorem dX9_known_18 : decode cX9_known 18 = .ok (.ifCond .eq 16, 3) := by decide +kernel
theorem dX9_known_21 : decode cX9_known 21 = .ok (.aload_n 0, 1) := by decide +kernel
theorem dX9_known_22 : decode cX9_known 22 = .ok (.aload_n 0, 1) := by decide +kernel
theorem dX9_known_23 : decode cX9_known 23 = .ok (.invokevirtual 151, 3) := by decide +kernel
theorem dX9_known_26 : decode cX9_known 26 = .ok (.iload_n 1, 1) := by decide +kernel
theorem dX9_known_27 : decode cX9_known 27 = .ok (.iload_n 2, 1) := by decide +kernel
theorem dX9_known_28 : decode cX9_known 28 = .ok (.invokevirtual 157, 3) := by decide +kernel
theorem dX9_known_31 : decode cX9_known 31 = .ok (.goto 4, 3) := by decide +kernel
theorem dX9_known_34 : decode cX9_known 34 = .ok (.iconst (-1), 1) := by decide +kernel
theorem dX9_known_35 : decode cX9_known 35 = .ok (.ireturn, 1) := by decide +kernel
theorem dX9_line_0 : decode cX9_line 0 = .ok (.aload_n 0, 1) := by decide +kernel
theorem dX9_line_1 : decode cX9_line 1 = .ok (.iconst 0, 1) := by decide +kernel
theorem dX9_line_2 : decode cX9_line 2 = .ok (.putfield 63, 3) := by decide +kernel
theorem dX9_line_5 : decode cX9_line 5 = .ok (.aload_n 0, 1) := by decide +kernel
theorem dX9_line_6 : decode cX9_line 6 = .ok (.iload_n 1, 1) := by decide +kernel
theorem dX9_line_7 : decode cX9_line 7 = .ok (.invokevirtual 70, 3) := by decide +kernel
theorem dX9_line_10 : decode cX9_line 10 = .ok (.ifCond .ne 5, 3) := by decide +kernel
theorem dX9_line_13 : decode cX9_line 13 = .ok (.iconst (-1), 1) := by decide +kernel
theorem dX9_line_14 : decode cX9_line 14 = .ok (.ireturn, 1) := by decide +kernel
theorem dX9_line_15 : decode cX9_line 15 = .ok (.aload_n 0, 1) := by decide +kernel
theorem dX9_line_16 : decode cX9_line 16 = .ok (.aload_n 0, 1) := by decide +kernel
theorem dX9_line_17 : decode cX9_line 17 = .ok (.invokevirtual 151, 3) := by decide +kernel
theorem dX9_line_20 : decode cX9_line 20 = .ok (.iconst 0, 1) := by decide +kernel
theorem dX9_line_21 : decode cX9_line 21 = .ok (.bipush (-9), 2) := by decide +kernel
theorem dX9_line_23 : decode cX9_line 23 = .ok (.iconst 0, 1) := by decide +kernel
theorem dX9_line_24 : decode cX9_line 24 = .ok (.invokevirtual 136, 3) := by decide +kernel
theorem dX9_line_27 : decode cX9_line 27 = .ok (.aload_n 0, 1) := by decide +kernel
theorem dX9_line_28 : decode cX9_line 28 = .ok (.invokevirtual 139, 3) := by decide +kernel
theorem dX9_line_31 : decode cX9_line 31 = .ok (.ifCond .eq 12, 3) := by decide +kernel
theorem dX9_line_34 : decode cX9_line 34 = .ok (.aload_n 0, 1) := by decide +kernel
theorem dX9_line_35 : decode cX9_line 35 = .ok (.getfield 44, 3) := by decide +kernel
theorem dX9_line_38 : decode cX9_line 38 = .ok (.iload_n 1, 1) := by decide +kernel
theorem dX9_line_39 : decode cX9_line 39 = .ok (.iaload, 1) := by decide +kernel
theorem dX9_line_40 : decode cX9_line 40 = .ok (.goto 5, 3) := by decide +kernel
theorem dX9_line_43 : decode cX9_line 43 = .ok (.bipush (-9), 2) := by decide +kernel
theorem dX9_line_45 : decode cX9_line 45 = .ok (.ireturn, 1) := by decide +kernel
theorem dX9_would_0 : decode cX9_would 0 = .ok (.aload_n 0, 1) := by decide +kernel
theorem dX9_would_1 : decode cX9_would 1 = .ok (.iconst 0, 1) := by decide +kernel
theorem dX9_would_2 : decode cX9_would 2 = .ok (.putfield 63, 3) := by decide +kernel
theorem dX9_would_5 : decode cX9_would 5 = .ok (.aload_n 0, 1) := by decide +kernel
theorem dX9_would_6 : decode cX9_would 6 = .ok (.iload_n 1, 1) := by decide +kernel
theorem dX9_would_7 : decode cX9_would 7 = .ok (.invokevirtual 161, 3) := by decide +kernel
theorem dX9_would_10 : decode cX9_would 10 = .ok (.ifCond .eq 25, 3) := by decide +kernel
theorem dX9_would_13 : decode cX9_would 13 = .ok (.aload_n 0, 1) := by decide +kernel
theorem dX9_would_14 : decode cX9_would 14 = .ok (.iload_n 3, 1) := by decide +kernel
theorem dX9_would_15 : decode cX9_would 15 = .ok (.invokevirtual 161, 3) := by decide +kernel
theorem dX9_would_18 : decode cX9_would 18 = .ok (.ifCond .eq 17, 3) := by decide +kernel
theorem dX9_would_21 : decode cX9_would 21 = .ok (.iload_n 1, 1) := by decide +kernel
theorem dX9_would_22 : decode cX9_would 22 = .ok (.iload_n 3, 1) := by decide +kernel
theorem dX9_would_23 : decode cX9_would 23 = .ok (.if_icmp .eq 12, 3) := by decide +kernel
theorem dX9_would_26 : decode cX9_would 26 = .ok (.iload_n 2, 1) := by decide +kernel
theorem dX9_would_27 : decode cX9_would 27 = .ok (.iconst 0, 1) := by decide +kernel
theorem dX9_would_28 : decode cX9_would 28 = .ok (.iconst 1, 1) := by decide +kernel
theorem dX9_would_29 : decode cX9_would 29 = .ok (.invokestatic 66, 3) := by decide +kernel
theorem dX9_would_32 : decode cX9_would 32 = .ok (.ifCond .ne 5, 3) := by decide +kernel
theorem dX9_would_35 : decode cX9_would 35 = .ok (.iconst (-1), 1) := by decide +kernel
theorem dX9_would_36 : decode cX9_would 36 = .ok (.ireturn, 1) := by decide +kernel
theorem dX9_would_37 : decode cX9_would 37 = .ok (.aload_n 0, 1) := by decide +kernel
theorem dX9_would_38 : decode cX9_would 38 = .ok (.aload_n 0, 1) := by decide +kernel
theorem dX9_would_39 : decode cX9_would 39 = .ok (.invokevirtual 151, 3) := by decide +kernel
theorem dX9_would_42 : decode cX9_would 42 = .ok (.iload_n 1, 1) := by decide +kernel
theorem dX9_would_43 : decode cX9_would 43 = .ok (.iload_n 3, 1) := by decide +kernel
theorem dX9_would_44 : decode cX9_would 44 = .ok (.invokevirtual 157, 3) := by decide +kernel
theorem dX9_would_47 : decode cX9_would 47 = .ok (.istore 4, 2) := by decide +kernel
theorem dX9_would_49 : decode cX9_would 49 = .ok (.iload 4, 2) := by decide +kernel
theorem dX9_would_51 : decode cX9_would 51 = .ok (.iconst 4, 1) := by decide +kernel
theorem dX9_would_52 : decode cX9_would 52 = .ok (.if_icmp .ne 5, 3) := by decide +kernel
theorem dX9_would_55 : decode cX9_would 55 = .ok (.iconst 4, 1) := by decide +kernel
theorem dX9_would_56 : decode cX9_would 56 = .ok (.ireturn, 1) := by decide +kernel
theorem dX9_would_57 : decode cX9_would 57 = .ok (.iload 4, 2) := by decide +kernel
theorem dX9_would_59 : decode cX9_would 59 = .ok (.iconst 1, 1) := by decide +kernel
theorem dX9_would_60 : decode cX9_would 60 = .ok (.iload_n 2, 1) := by decide +kernel
theorem dX9_would_61 : decode cX9_would 61 = .ok (.iadd, 1) := by decide +kernel
theorem dX9_would_62 : decode cX9_would 62 = .ok (.if_icmp .ne 5, 3) := by decide +kernel
theorem dX9_would_65 : decode cX9_would 65 = .ok (.iconst 0, 1) := by decide +kernel
theorem dX9_would_66 : decode cX9_would 66 = .ok (.ireturn, 1) := by decide +kernel
theorem dX9_would_67 : decode cX9_would 67 = .ok (.aload_n 0, 1) := by decide +kernel
theorem dX9_would_68 : decode cX9_would 68 = .ok (.aload_n 0, 1) := by decide +kernel
theorem dX9_would_69 : decode cX9_would 69 = .ok (.invokevirtual 151, 3) := by decide +kernel
theorem dX9_would_72 : decode cX9_would 72 = .ok (.iload_n 1, 1) := by decide +kernel
theorem dX9_would_73 : decode cX9_would 73 = .ok (.iload_n 2, 1) := by decide +kernel
theorem dX9_would_74 : decode cX9_would 74 = .ok (.iload_n 3, 1) := by decide +kernel
theorem dX9_would_75 : decode cX9_would 75 = .ok (.invokevirtual 136, 3) := by decide +kernel
theorem dX9_would_78 : decode cX9_would 78 = .ok (.aload_n 0, 1) := by decide +kernel
theorem dX9_would_79 : decode cX9_would 79 = .ok (.invokevirtual 139, 3) := by decide +kernel
theorem dX9_would_82 : decode cX9_would 82 = .ok (.ifCond .eq 7, 3) := by decide +kernel
theorem dX9_would_85 : decode cX9_would 85 = .ok (.iconst 1, 1) := by decide +kernel
theorem dX9_would_86 : decode cX9_would 86 = .ok (.goto 4, 3) := by decide +kernel
theorem dX9_would_89 : decode cX9_would 89 = .ok (.iconst 2, 1) := by decide +kernel
theorem dX9_would_90 : decode cX9_would 90 = .ok (.ireturn, 1) := by decide +kernel
theorem dX9_canCome_0 : decode cX9_canCome 0 = .ok (.iload_n 1, 1) := by decide +kernel
theorem dX9_canCome_1 : decode cX9_canCome 1 = .ok (.iload_n 2, 1) := by decide +kernel
theorem dX9_canCome_2 : decode cX9_canCome 2 = .ok (.iand, 1) := by decide +kernel
theorem dX9_canCome_3 : decode cX9_canCome 3 = .ok (.ifCond .ne 7, 3) := by decide +kernel
theorem dX9_canCome_6 : decode cX9_canCome 6 = .ok (.iconst 1, 1) := by decide +kernel
theorem dX9_canCome_7 : decode cX9_canCome 7 = .ok (.goto 4, 3) := by decide +kernel
theorem dX9_canCome_10 : decode cX9_canCome 10 = .ok (.iconst 0, 1) := by decide +kernel
theorem dX9_canCome_11 : decode cX9_canCome 11 = .ok (.istore_n 3, 1) := by decide +kernel
theorem dX9_canCome_12 : decode cX9_canCome 12 = .ok (.iconst 0, 1) := by decide +kernel
theorem dX9_canCome_13 : decode cX9_canCome 13 = .ok (.istore 4, 2) := by decide +kernel
theorem dX9_canCome_15 : decode cX9_canCome 15 = .ok (.iload 4, 2) := by decide +kernel
theorem dX9_canCome_17 : decode cX9_canCome 17 = .ok (.aload_n 0, 1) := by decide +kernel
theorem dX9_canCome_18 : decode cX9_canCome 18 = .ok (.getfield 7, 3) := by decide +kernel
theorem dX9_canCome_21 : decode cX9_canCome 21 = .ok (.iconst 0, 1) := by decide +kernel
theorem dX9_canCome_22 : decode cX9_canCome 22 = .ok (.iaload, 1) := by decide +kernel
theorem dX9_canCome_23 : decode cX9_canCome 23 = .ok (.if_icmp .ge 56, 3) := by decide +kernel
theorem dX9_canCome_26 : decode cX9_canCome 26 = .ok (.iload_n 3, 1) := by decide +kernel
theorem dX9_canCome_27 : decode cX9_canCome 27 = .ok (.ifCond .eq 52, 3) := by decide +kernel
theorem dX9_canCome_30 : decode cX9_canCome 30 = .ok (.iload_n 1, 1) := by decide +kernel
theorem dX9_canCome_31 : decode cX9_canCome 31 = .ok (.iload 4, 2) := by decide +kernel
theorem dX9_canCome_33 : decode cX9_canCome 33 = .ok (.ishr, 1) := by decide +kernel
theorem dX9_canCome_34 : decode cX9_canCome 34 = .ok (.iconst 1, 1) := by decide +kernel
theorem dX9_canCome_35 : decode cX9_canCome 35 = .ok (.iand, 1) := by decide +kernel
theorem dX9_canCome_36 : decode cX9_canCome 36 = .ok (.ifCond .eq 31, 3) := by decide +kernel
theorem dX9_canCome_39 : decode cX9_canCome 39 = .ok (.aload_n 0, 1) := by decide +kernel
theorem dX9_canCome_40 : decode cX9_canCome 40 = .ok (.getfield 53, 3) := by decide +kernel
theorem dX9_canCome_43 : decode cX9_canCome 43 = .ok (.iload 4, 2) := by decide +kernel
theorem dX9_canCome_45 : decode cX9_canCome 45 = .ok (.iaload, 1) := by decide +kernel
theorem dX9_canCome_46 : decode cX9_canCome 46 = .ok (.iload_n 2, 1) := by decide +kernel
theorem dX9_canCome_47 : decode cX9_canCome 47 = .ok (.iconst (-1), 1) := by decide +kernel
theorem dX9_canCome_48 : decode cX9_canCome 48 = .ok (.ixor, 1) := by decide +kernel
theorem dX9_canCome_49 : decode cX9_canCome 49 = .ok (.iand, 1) := by decide +kernel
theorem dX9_canCome_50 : decode cX9_canCome 50 = .ok (.ifCond .ne 21, 3) := by decide +kernel
theorem dX9_canCome_53 : decode cX9_canCome 53 = .ok (.aload_n 0, 1) := by decide +kernel
theorem dX9_canCome_54 : decode cX9_canCome 54 = .ok (.getfield 56, 3) := by decide +kernel
theorem dX9_canCome_57 : decode cX9_canCome 57 = .ok (.iload 4, 2) := by decide +kernel
theorem dX9_canCome_59 : decode cX9_canCome 59 = .ok (.iaload, 1) := by decide +kernel
theorem dX9_canCome_60 : decode cX9_canCome 60 = .ok (.iload_n 1, 1) := by decide +kernel
theorem dX9_canCome_61 : decode cX9_canCome 61 = .ok (.iconst (-1), 1) := by decide +kernel
theorem dX9_canCome_62 : decode cX9_canCome 62 = .ok (.ixor, 1) := by decide +kernel
theorem dX9_canCome_63 : decode cX9_canCome 63 = .ok (.iand, 1) := by decide +kernel
theorem dX9_canCome_64 : decode cX9_canCome 64 = .ok (.ifCond .ne 7, 3) := by decide +kernel
theorem dX9_canCome_67 : decode cX9_canCome 67 = .ok (.iconst 1, 1) := by decide +kernel
theorem dX9_canCome_68 : decode cX9_canCome 68 = .ok (.goto 4, 3) := by decide +kernel
theorem dX9_canCome_71 : decode cX9_canCome 71 = .ok (.iconst 0, 1) := by decide +kernel
theorem dX9_canCome_72 : decode cX9_canCome 72 = .ok (.istore_n 3, 1) := by decide +kernel
theorem dX9_canCome_73 : decode cX9_canCome 73 = .ok (.iinc 4 1, 3) := by decide +kernel
theorem dX9_canCome_76 : decode cX9_canCome 76 = .ok (.goto (-61), 3) := by decide +kernel
theorem dX9_canCome_79 : decode cX9_canCome 79 = .ok (.iload_n 3, 1) := by decide +kernel
theorem dX9_canCome_80 : decode cX9_canCome 80 = .ok (.ireturn, 1) := by decide +kernel
theorem dX9_ordersWith_0 : decode cX9_ordersWith 0 = .ok (.aload_n 0, 1) := by decide +kernel
theorem dX9_ordersWith_1 : decode cX9_ordersWith 1 = .ok (.aload_n 0, 1) := by decide +kernel
theorem dX9_ordersWith_2 : decode cX9_ordersWith 2 = .ok (.invokevirtual 151, 3) := by decide +kernel
theorem dX9_ordersWith_5 : decode cX9_ordersWith 5 = .ok (.iload_n 1, 1) := by decide +kernel
theorem dX9_ordersWith_6 : decode cX9_ordersWith 6 = .ok (.iload_n 2, 1) := by decide +kernel
theorem dX9_ordersWith_7 : decode cX9_ordersWith 7 = .ok (.iload_n 3, 1) := by decide +kernel
theorem dX9_ordersWith_8 : decode cX9_ordersWith 8 = .ok (.invokevirtual 136, 3) := by decide +kernel
theorem dX9_ordersWith_11 : decode cX9_ordersWith 11 = .ok (.aload_n 0, 1) := by decide +kernel
theorem dX9_ordersWith_12 : decode cX9_ordersWith 12 = .ok (.invokevirtual 139, 3) := by decide +kernel
theorem dX9_ordersWith_15 : decode cX9_ordersWith 15 = .ok (.ifCond .ne 5, 3) := by decide +kernel
theorem dX9_ordersWith_18 : decode cX9_ordersWith 18 = .ok (.iconst 0, 1) := by decide +kernel
theorem dX9_ordersWith_19 : decode cX9_ordersWith 19 = .ok (.ireturn, 1) := by decide +kernel
theorem dX9_ordersWith_20 : decode cX9_ordersWith 20 = .ok (.aload_n 0, 1) := by decide +kernel
theorem dX9_ordersWith_21 : decode cX9_ordersWith 21 = .ok (.invokevirtual 142, 3) := by decide +kernel
theorem dX9_ordersWith_24 : decode cX9_ordersWith 24 = .ok (.aload_n 0, 1) := by decide +kernel
theorem dX9_ordersWith_25 : decode cX9_ordersWith 25 = .ok (.getfield 7, 3) := by decide +kernel
theorem dX9_ordersWith_28 : decode cX9_ordersWith 28 = .ok (.iconst 0, 1) := by decide +kernel
theorem dX9_ordersWith_29 : decode cX9_ordersWith 29 = .ok (.iaload, 1) := by decide +kernel
theorem dX9_ordersWith_30 : decode cX9_ordersWith 30 = .ok (.istore 4, 2) := by decide +kernel
theorem dX9_ordersWith_32 : decode cX9_ordersWith 32 = .ok (.iconst 0, 1) := by decide +kernel
theorem dX9_ordersWith_33 : decode cX9_ordersWith 33 = .ok (.istore 5, 2) := by decide +kernel
theorem dX9_ordersWith_35 : decode cX9_ordersWith 35 = .ok (.iload 5, 2) := by decide +kernel
theorem dX9_ordersWith_37 : decode cX9_ordersWith 37 = .ok (.iload 4, 2) := by decide +kernel
theorem dX9_ordersWith_39 : decode cX9_ordersWith 39 = .ok (.if_icmp .ge 117, 3) := by decide +kernel
theorem dX9_ordersWith_42 : decode cX9_ordersWith 42 = .ok (.aload_n 0, 1) := by decide +kernel
theorem dX9_ordersWith_43 : decode cX9_ordersWith 43 = .ok (.getfield 53, 3) := by decide +kernel
theorem dX9_ordersWith_46 : decode cX9_ordersWith 46 = .ok (.iload 5, 2) := by decide +kernel
theorem dX9_ordersWith_48 : decode cX9_ordersWith 48 = .ok (.iconst 0, 1) := by decide +kernel
theorem dX9_ordersWith_49 : decode cX9_ordersWith 49 = .ok (.iastore, 1) := by decide +kernel
theorem dX9_ordersWith_50 : decode cX9_ordersWith 50 = .ok (.aload_n 0, 1) := by decide +kernel
theorem dX9_ordersWith_51 : decode cX9_ordersWith 51 = .ok (.getfield 56, 3) := by decide +kernel
theorem dX9_ordersWith_54 : decode cX9_ordersWith 54 = .ok (.iload 5, 2) := by decide +kernel
theorem dX9_ordersWith_56 : decode cX9_ordersWith 56 = .ok (.iconst 0, 1) := by decide +kernel
theorem dX9_ordersWith_57 : decode cX9_ordersWith 57 = .ok (.iastore, 1) := by decide +kernel
theorem dX9_ordersWith_58 : decode cX9_ordersWith 58 = .ok (.iconst 0, 1) := by decide +kernel
theorem dX9_ordersWith_59 : decode cX9_ordersWith 59 = .ok (.istore 6, 2) := by decide +kernel
theorem dX9_ordersWith_61 : decode cX9_ordersWith 61 = .ok (.iload 6, 2) := by decide +kernel
theorem dX9_ordersWith_63 : decode cX9_ordersWith 63 = .ok (.iload 4, 2) := by decide +kernel
theorem dX9_ordersWith_65 : decode cX9_ordersWith 65 = .ok (.if_icmp .ge 85, 3) := by decide +kernel
theorem dX9_ordersWith_68 : decode cX9_ordersWith 68 = .ok (.aload_n 0, 1) := by decide +kernel
theorem dX9_ordersWith_69 : decode cX9_ordersWith 69 = .ok (.getfield 53, 3) := by decide +kernel
theorem dX9_ordersWith_72 : decode cX9_ordersWith 72 = .ok (.iload 5, 2) := by decide +kernel
theorem dX9_ordersWith_74 : decode cX9_ordersWith 74 = .ok (.dup2, 1) := by decide +kernel
theorem dX9_ordersWith_75 : decode cX9_ordersWith 75 = .ok (.iaload, 1) := by decide +kernel
theorem dX9_ordersWith_76 : decode cX9_ordersWith 76 = .ok (.aload_n 0, 1) := by decide +kernel
theorem dX9_ordersWith_77 : decode cX9_ordersWith 77 = .ok (.getfield 47, 3) := by decide +kernel
theorem dX9_ordersWith_80 : decode cX9_ordersWith 80 = .ok (.iconst 2, 1) := by decide +kernel
theorem dX9_ordersWith_81 : decode cX9_ordersWith 81 = .ok (.iconst 2, 1) := by decide +kernel
theorem dX9_ordersWith_82 : decode cX9_ordersWith 82 = .ok (.iload 5, 2) := by decide +kernel
theorem dX9_ordersWith_84 : decode cX9_ordersWith 84 = .ok (.imul, 1) := by decide +kernel
theorem dX9_ordersWith_85 : decode cX9_ordersWith 85 = .ok (.iadd, 1) := by decide +kernel
theorem dX9_ordersWith_86 : decode cX9_ordersWith 86 = .ok (.iaload, 1) := by decide +kernel
theorem dX9_ordersWith_87 : decode cX9_ordersWith 87 = .ok (.iconst 2, 1) := by decide +kernel
theorem dX9_ordersWith_88 : decode cX9_ordersWith 88 = .ok (.iconst 2, 1) := by decide +kernel
theorem dX9_ordersWith_89 : decode cX9_ordersWith 89 = .ok (.iload 6, 2) := by decide +kernel
theorem dX9_ordersWith_91 : decode cX9_ordersWith 91 = .ok (.imul, 1) := by decide +kernel
theorem dX9_ordersWith_92 : decode cX9_ordersWith 92 = .ok (.iadd, 1) := by decide +kernel
theorem dX9_ordersWith_93 : decode cX9_ordersWith 93 = .ok (.ishr, 1) := by decide +kernel
theorem dX9_ordersWith_94 : decode cX9_ordersWith 94 = .ok (.iconst 1, 1) := by decide +kernel
theorem dX9_ordersWith_95 : decode cX9_ordersWith 95 = .ok (.iand, 1) := by decide +kernel
theorem dX9_ordersWith_96 : decode cX9_ordersWith 96 = .ok (.iload 6, 2) := by decide +kernel
theorem dX9_ordersWith_98 : decode cX9_ordersWith 98 = .ok (.ishl, 1) := by decide +kernel
theorem dX9_ordersWith_99 : decode cX9_ordersWith 99 = .ok (.ior, 1) := by decide +kernel
theorem dX9_ordersWith_100 : decode cX9_ordersWith 100 = .ok (.iastore, 1) := by decide +kernel
theorem dX9_ordersWith_101 : decode cX9_ordersWith 101 = .ok (.aload_n 0, 1) := by decide +kernel
theorem dX9_ordersWith_102 : decode cX9_ordersWith 102 = .ok (.getfield 56, 3) := by decide +kernel
theorem dX9_ordersWith_105 : decode cX9_ordersWith 105 = .ok (.iload 5, 2) := by decide +kernel
theorem dX9_ordersWith_107 : decode cX9_ordersWith 107 = .ok (.dup2, 1) := by decide +kernel
theorem dX9_ordersWith_108 : decode cX9_ordersWith 108 = .ok (.iaload, 1) := by decide +kernel
theorem dX9_ordersWith_109 : decode cX9_ordersWith 109 = .ok (.aload_n 0, 1) := by decide +kernel
theorem dX9_ordersWith_110 : decode cX9_ordersWith 110 = .ok (.getfield 38, 3) := by decide +kernel
theorem dX9_ordersWith_113 : decode cX9_ordersWith 113 = .ok (.iconst 2, 1) := by decide +kernel
theorem dX9_ordersWith_114 : decode cX9_ordersWith 114 = .ok (.iconst 2, 1) := by decide +kernel
theorem dX9_ordersWith_115 : decode cX9_ordersWith 115 = .ok (.iload 5, 2) := by decide +kernel
theorem dX9_ordersWith_117 : decode cX9_ordersWith 117 = .ok (.imul, 1) := by decide +kernel
theorem dX9_ordersWith_118 : decode cX9_ordersWith 118 = .ok (.iadd, 1) := by decide +kernel
theorem dX9_ordersWith_119 : decode cX9_ordersWith 119 = .ok (.iaload, 1) := by decide +kernel
theorem dX9_ordersWith_120 : decode cX9_ordersWith 120 = .ok (.aload_n 0, 1) := by decide +kernel
theorem dX9_ordersWith_121 : decode cX9_ordersWith 121 = .ok (.getfield 38, 3) := by decide +kernel
theorem dX9_ordersWith_124 : decode cX9_ordersWith 124 = .ok (.iconst 2, 1) := by decide +kernel
theorem dX9_ordersWith_125 : decode cX9_ordersWith 125 = .ok (.iconst 2, 1) := by decide +kernel
theorem dX9_ordersWith_126 : decode cX9_ordersWith 126 = .ok (.iload 6, 2) := by decide +kernel
theorem dX9_ordersWith_128 : decode cX9_ordersWith 128 = .ok (.imul, 1) := by decide +kernel
theorem dX9_ordersWith_129 : decode cX9_ordersWith 129 = .ok (.iadd, 1) := by decide +kernel
theorem dX9_ordersWith_130 : decode cX9_ordersWith 130 = .ok (.iaload, 1) := by decide +kernel
theorem dX9_ordersWith_131 : decode cX9_ordersWith 131 = .ok (.if_icmp .ne 10, 3) := by decide +kernel
theorem dX9_ordersWith_134 : decode cX9_ordersWith 134 = .ok (.iconst 1, 1) := by decide +kernel
theorem dX9_ordersWith_135 : decode cX9_ordersWith 135 = .ok (.iload 6, 2) := by decide +kernel
theorem dX9_ordersWith_137 : decode cX9_ordersWith 137 = .ok (.ishl, 1) := by decide +kernel
theorem dX9_ordersWith_138 : decode cX9_ordersWith 138 = .ok (.goto 4, 3) := by decide +kernel
theorem dX9_ordersWith_141 : decode cX9_ordersWith 141 = .ok (.iconst 0, 1) := by decide +kernel
theorem dX9_ordersWith_142 : decode cX9_ordersWith 142 = .ok (.ior, 1) := by decide +kernel
theorem dX9_ordersWith_143 : decode cX9_ordersWith 143 = .ok (.iastore, 1) := by decide +kernel
theorem dX9_ordersWith_144 : decode cX9_ordersWith 144 = .ok (.iinc 6 1, 3) := by decide +kernel
theorem dX9_ordersWith_147 : decode cX9_ordersWith 147 = .ok (.goto (-86), 3) := by decide +kernel
theorem dX9_ordersWith_150 : decode cX9_ordersWith 150 = .ok (.iinc 5 1, 3) := by decide +kernel
theorem dX9_ordersWith_153 : decode cX9_ordersWith 153 = .ok (.goto (-118), 3) := by decide +kernel
theorem dX9_ordersWith_156 : decode cX9_ordersWith 156 = .ok (.iconst 1, 1) := by decide +kernel
theorem dX9_ordersWith_157 : decode cX9_ordersWith 157 = .ok (.iload 4, 2) := by decide +kernel
theorem dX9_ordersWith_159 : decode cX9_ordersWith 159 = .ok (.ishl, 1) := by decide +kernel
theorem dX9_ordersWith_160 : decode cX9_ordersWith 160 = .ok (.iconst 1, 1) := by decide +kernel
theorem dX9_ordersWith_161 : decode cX9_ordersWith 161 = .ok (.isub, 1) := by decide +kernel
theorem dX9_ordersWith_162 : decode cX9_ordersWith 162 = .ok (.istore 5, 2) := by decide +kernel
theorem dX9_ordersWith_164 : decode cX9_ordersWith 164 = .ok (.iconst 0, 1) := by decide +kernel
theorem dX9_ordersWith_165 : decode cX9_ordersWith 165 = .ok (.istore 6, 2) := by decide +kernel
theorem dX9_ordersWith_167 : decode cX9_ordersWith 167 = .ok (.iload 6, 2) := by decide +kernel
theorem dX9_ordersWith_169 : decode cX9_ordersWith 169 = .ok (.iload 5, 2) := by decide +kernel
theorem dX9_ordersWith_171 : decode cX9_ordersWith 171 = .ok (.if_icmp .gt 26, 3) := by decide +kernel
theorem dX9_ordersWith_174 : decode cX9_ordersWith 174 = .ok (.aload_n 0, 1) := by decide +kernel
theorem dX9_ordersWith_175 : decode cX9_ordersWith 175 = .ok (.getfield 50, 3) := by decide +kernel
theorem dX9_ordersWith_178 : decode cX9_ordersWith 178 = .ok (.iload 6, 2) := by decide +kernel
theorem dX9_ordersWith_180 : decode cX9_ordersWith 180 = .ok (.iload 6, 2) := by decide +kernel
theorem dX9_ordersWith_182 : decode cX9_ordersWith 182 = .ok (.ifCond .ne 7, 3) := by decide +kernel
theorem dX9_ordersWith_185 : decode cX9_ordersWith 185 = .ok (.iconst 1, 1) := by decide +kernel
theorem dX9_ordersWith_186 : decode cX9_ordersWith 186 = .ok (.goto 4, 3) := by decide +kernel
theorem dX9_ordersWith_189 : decode cX9_ordersWith 189 = .ok (.iconst 0, 1) := by decide +kernel
theorem dX9_ordersWith_190 : decode cX9_ordersWith 190 = .ok (.iastore, 1) := by decide +kernel
theorem dX9_ordersWith_191 : decode cX9_ordersWith 191 = .ok (.iinc 6 1, 3) := by decide +kernel
theorem dX9_ordersWith_194 : decode cX9_ordersWith 194 = .ok (.goto (-27), 3) := by decide +kernel
theorem dX9_ordersWith_197 : decode cX9_ordersWith 197 = .ok (.iconst 0, 1) := by decide +kernel
theorem dX9_ordersWith_198 : decode cX9_ordersWith 198 = .ok (.istore 6, 2) := by decide +kernel
theorem dX9_ordersWith_200 : decode cX9_ordersWith 200 = .ok (.iload 6, 2) := by decide +kernel
theorem dX9_ordersWith_202 : decode cX9_ordersWith 202 = .ok (.iload 5, 2) := by decide +kernel
theorem dX9_ordersWith_204 : decode cX9_ordersWith 204 = .ok (.if_icmp .ge 70, 3) := by decide +kernel
theorem dX9_ordersWith_207 : decode cX9_ordersWith 207 = .ok (.iconst 1, 1) := by decide +kernel
theorem dX9_ordersWith_208 : decode cX9_ordersWith 208 = .ok (.istore 7, 2) := by decide +kernel
theorem dX9_ordersWith_210 : decode cX9_ordersWith 210 = .ok (.iload 7, 2) := by decide +kernel
theorem dX9_ordersWith_212 : decode cX9_ordersWith 212 = .ok (.iload 5, 2) := by decide +kernel
theorem dX9_ordersWith_214 : decode cX9_ordersWith 214 = .ok (.if_icmp .gt 54, 3) := by decide +kernel
theorem dX9_ordersWith_217 : decode cX9_ordersWith 217 = .ok (.aload_n 0, 1) := by decide +kernel
theorem dX9_ordersWith_218 : decode cX9_ordersWith 218 = .ok (.getfield 50, 3) := by decide +kernel
theorem dX9_ordersWith_221 : decode cX9_ordersWith 221 = .ok (.iload 6, 2) := by decide +kernel
theorem dX9_ordersWith_223 : decode cX9_ordersWith 223 = .ok (.iaload, 1) := by decide +kernel
theorem dX9_ordersWith_224 : decode cX9_ordersWith 224 = .ok (.ifCond .le 44, 3) := by decide +kernel
theorem dX9_ordersWith_227 : decode cX9_ordersWith 227 = .ok (.aload_n 0, 1) := by decide +kernel
theorem dX9_ordersWith_228 : decode cX9_ordersWith 228 = .ok (.getfield 50, 3) := by decide +kernel
theorem dX9_ordersWith_231 : decode cX9_ordersWith 231 = .ok (.iload 6, 2) := by decide +kernel
theorem dX9_ordersWith_233 : decode cX9_ordersWith 233 = .ok (.iload 7, 2) := by decide +kernel
theorem dX9_ordersWith_235 : decode cX9_ordersWith 235 = .ok (.ior, 1) := by decide +kernel
theorem dX9_ordersWith_236 : decode cX9_ordersWith 236 = .ok (.dup2, 1) := by decide +kernel
theorem dX9_ordersWith_237 : decode cX9_ordersWith 237 = .ok (.iaload, 1) := by decide +kernel
theorem dX9_ordersWith_238 : decode cX9_ordersWith 238 = .ok (.aload_n 0, 1) := by decide +kernel
theorem dX9_ordersWith_239 : decode cX9_ordersWith 239 = .ok (.iload 7, 2) := by decide +kernel
theorem dX9_ordersWith_241 : decode cX9_ordersWith 241 = .ok (.iload 6, 2) := by decide +kernel
theorem dX9_ordersWith_243 : decode cX9_ordersWith 243 = .ok (.invokevirtual 164, 3) := by decide +kernel
theorem dX9_ordersWith_246 : decode cX9_ordersWith 246 = .ok (.ifCond .eq 13, 3) := by decide +kernel
theorem dX9_ordersWith_249 : decode cX9_ordersWith 249 = .ok (.aload_n 0, 1) := by decide +kernel
theorem dX9_ordersWith_250 : decode cX9_ordersWith 250 = .ok (.getfield 50, 3) := by decide +kernel
theorem dX9_ordersWith_253 : decode cX9_ordersWith 253 = .ok (.iload 6, 2) := by decide +kernel
theorem dX9_ordersWith_255 : decode cX9_ordersWith 255 = .ok (.iaload, 1) := by decide +kernel
theorem dX9_ordersWith_256 : decode cX9_ordersWith 256 = .ok (.goto 4, 3) := by decide +kernel
theorem dX9_ordersWith_259 : decode cX9_ordersWith 259 = .ok (.iconst 0, 1) := by decide +kernel
theorem dX9_ordersWith_260 : decode cX9_ordersWith 260 = .ok (.iadd, 1) := by decide +kernel
theorem dX9_ordersWith_261 : decode cX9_ordersWith 261 = .ok (.iastore, 1) := by decide +kernel
theorem dX9_ordersWith_262 : decode cX9_ordersWith 262 = .ok (.iinc 7 1, 3) := by decide +kernel
theorem dX9_ordersWith_265 : decode cX9_ordersWith 265 = .ok (.goto (-55), 3) := by decide +kernel
theorem dX9_ordersWith_268 : decode cX9_ordersWith 268 = .ok (.iinc 6 1, 3) := by decide +kernel
theorem dX9_ordersWith_271 : decode cX9_ordersWith 271 = .ok (.goto (-71), 3) := by decide +kernel
theorem dX9_ordersWith_274 : decode cX9_ordersWith 274 = .ok (.aload_n 0, 1) := by decide +kernel
theorem dX9_ordersWith_275 : decode cX9_ordersWith 275 = .ok (.getfield 50, 3) := by decide +kernel
theorem dX9_ordersWith_278 : decode cX9_ordersWith 278 = .ok (.iload 5, 2) := by decide +kernel
theorem dX9_ordersWith_280 : decode cX9_ordersWith 280 = .ok (.iaload, 1) := by decide +kernel
theorem dX9_ordersWith_281 : decode cX9_ordersWith 281 = .ok (.ireturn, 1) := by decide +kernel
theorem dX9_orders_0 : decode cX9_orders 0 = .ok (.aload_n 0, 1) := by decide +kernel
theorem dX9_orders_1 : decode cX9_orders 1 = .ok (.iconst 0, 1) := by decide +kernel
theorem dX9_orders_2 : decode cX9_orders 2 = .ok (.putfield 63, 3) := by decide +kernel
theorem dX9_orders_5 : decode cX9_orders 5 = .ok (.aload_n 0, 1) := by decide +kernel
theorem dX9_orders_6 : decode cX9_orders 6 = .ok (.iconst 0, 1) := by decide +kernel
theorem dX9_orders_7 : decode cX9_orders 7 = .ok (.bipush (-9), 2) := by decide +kernel
theorem dX9_orders_9 : decode cX9_orders 9 = .ok (.iconst 0, 1) := by decide +kernel
theorem dX9_orders_10 : decode cX9_orders 10 = .ok (.invokevirtual 168, 3) := by decide +kernel
theorem dX9_orders_13 : decode cX9_orders 13 = .ok (.ireturn, 1) := by decide +kernel
theorem dX9_leftBy_0 : decode cX9_leftBy 0 = .ok (.iconst 2, 1) := by decide +kernel
theorem dX9_leftBy_1 : decode cX9_leftBy 1 = .ok (.iconst 2, 1) := by decide +kernel
theorem dX9_leftBy_2 : decode cX9_leftBy 2 = .ok (.iload_n 1, 1) := by decide +kernel
theorem dX9_leftBy_3 : decode cX9_leftBy 3 = .ok (.imul, 1) := by decide +kernel
theorem dX9_leftBy_4 : decode cX9_leftBy 4 = .ok (.iadd, 1) := by decide +kernel
theorem dX9_leftBy_5 : decode cX9_leftBy 5 = .ok (.istore 4, 2) := by decide +kernel
theorem dX9_leftBy_7 : decode cX9_leftBy 7 = .ok (.iconst 2, 1) := by decide +kernel
theorem dX9_leftBy_8 : decode cX9_leftBy 8 = .ok (.iconst 2, 1) := by decide +kernel
theorem dX9_leftBy_9 : decode cX9_leftBy 9 = .ok (.iload_n 2, 1) := by decide +kernel
theorem dX9_leftBy_10 : decode cX9_leftBy 10 = .ok (.imul, 1) := by decide +kernel
theorem dX9_leftBy_11 : decode cX9_leftBy 11 = .ok (.iadd, 1) := by decide +kernel
theorem dX9_leftBy_12 : decode cX9_leftBy 12 = .ok (.istore 5, 2) := by decide +kernel
theorem dX9_leftBy_14 : decode cX9_leftBy 14 = .ok (.iload_n 3, 1) := by decide +kernel
theorem dX9_leftBy_15 : decode cX9_leftBy 15 = .ok (.iconst 2, 1) := by decide +kernel
theorem dX9_leftBy_16 : decode cX9_leftBy 16 = .ok (.if_icmp .ne 15, 3) := by decide +kernel
theorem dX9_leftBy_19 : decode cX9_leftBy 19 = .ok (.aload_n 0, 1) := by decide +kernel
theorem dX9_leftBy_20 : decode cX9_leftBy 20 = .ok (.iload 5, 2) := by decide +kernel
theorem dX9_leftBy_22 : decode cX9_leftBy 22 = .ok (.iconst 0, 1) := by decide +kernel
theorem dX9_leftBy_23 : decode cX9_leftBy 23 = .ok (.iload 4, 2) := by decide +kernel
theorem dX9_leftBy_25 : decode cX9_leftBy 25 = .ok (.invokevirtual 168, 3) := by decide +kernel
theorem dX9_leftBy_28 : decode cX9_leftBy 28 = .ok (.goto 12, 3) := by decide +kernel
theorem dX9_leftBy_31 : decode cX9_leftBy 31 = .ok (.aload_n 0, 1) := by decide +kernel
theorem dX9_leftBy_32 : decode cX9_leftBy 32 = .ok (.iload 4, 2) := by decide +kernel
theorem dX9_leftBy_34 : decode cX9_leftBy 34 = .ok (.iload_n 3, 1) := by decide +kernel
theorem dX9_leftBy_35 : decode cX9_leftBy 35 = .ok (.iload 5, 2) := by decide +kernel
theorem dX9_leftBy_37 : decode cX9_leftBy 37 = .ok (.invokevirtual 168, 3) := by decide +kernel
theorem dX9_leftBy_40 : decode cX9_leftBy 40 = .ok (.ireturn, 1) := by decide +kernel
theorem dX9_left_0 : decode cX9_left 0 = .ok (.aload_n 0, 1) := by decide +kernel
theorem dX9_left_1 : decode cX9_left 1 = .ok (.iconst 0, 1) := by decide +kernel
theorem dX9_left_2 : decode cX9_left 2 = .ok (.putfield 63, 3) := by decide +kernel
theorem dX9_left_5 : decode cX9_left 5 = .ok (.aload_n 0, 1) := by decide +kernel
theorem dX9_left_6 : decode cX9_left 6 = .ok (.iload_n 1, 1) := by decide +kernel
theorem dX9_left_7 : decode cX9_left 7 = .ok (.invokevirtual 145, 3) := by decide +kernel
theorem dX9_left_10 : decode cX9_left 10 = .ok (.ifCond .eq 35, 3) := by decide +kernel
theorem dX9_left_13 : decode cX9_left 13 = .ok (.aload_n 0, 1) := by decide +kernel
theorem dX9_left_14 : decode cX9_left 14 = .ok (.iload_n 2, 1) := by decide +kernel
theorem dX9_left_15 : decode cX9_left 15 = .ok (.invokevirtual 145, 3) := by decide +kernel
theorem dX9_left_18 : decode cX9_left 18 = .ok (.ifCond .eq 27, 3) := by decide +kernel
theorem dX9_left_21 : decode cX9_left 21 = .ok (.iload_n 1, 1) := by decide +kernel
theorem dX9_left_22 : decode cX9_left 22 = .ok (.iload_n 2, 1) := by decide +kernel
theorem dX9_left_23 : decode cX9_left 23 = .ok (.if_icmp .eq 22, 3) := by decide +kernel
theorem dX9_left_26 : decode cX9_left 26 = .ok (.iload_n 3, 1) := by decide +kernel
theorem dX9_left_27 : decode cX9_left 27 = .ok (.iconst 0, 1) := by decide +kernel
theorem dX9_left_28 : decode cX9_left 28 = .ok (.iconst 2, 1) := by decide +kernel
theorem dX9_left_29 : decode cX9_left 29 = .ok (.invokestatic 66, 3) := by decide +kernel
theorem dX9_left_32 : decode cX9_left 32 = .ok (.ifCond .eq 13, 3) := by decide +kernel
theorem dX9_left_35 : decode cX9_left 35 = .ok (.aload_n 0, 1) := by decide +kernel
theorem dX9_left_36 : decode cX9_left 36 = .ok (.iload_n 1, 1) := by decide +kernel
theorem dX9_left_37 : decode cX9_left 37 = .ok (.iload_n 2, 1) := by decide +kernel
theorem dX9_left_38 : decode cX9_left 38 = .ok (.iload_n 3, 1) := by decide +kernel
theorem dX9_left_39 : decode cX9_left 39 = .ok (.invokevirtual 171, 3) := by decide +kernel
theorem dX9_left_42 : decode cX9_left 42 = .ok (.goto 4, 3) := by decide +kernel
theorem dX9_left_45 : decode cX9_left 45 = .ok (.iconst (-1), 1) := by decide +kernel
theorem dX9_left_46 : decode cX9_left 46 = .ok (.ireturn, 1) := by decide +kernel
theorem dX9_best_0 : decode cX9_best 0 = .ok (.aload_n 0, 1) := by decide +kernel
theorem dX9_best_1 : decode cX9_best 1 = .ok (.iconst 0, 1) := by decide +kernel
theorem dX9_best_2 : decode cX9_best 2 = .ok (.putfield 63, 3) := by decide +kernel
theorem dX9_best_5 : decode cX9_best 5 = .ok (.iload_n 1, 1) := by decide +kernel
theorem dX9_best_6 : decode cX9_best 6 = .ok (.iconst 0, 1) := by decide +kernel
theorem dX9_best_7 : decode cX9_best 7 = .ok (.iconst 2, 1) := by decide +kernel
theorem dX9_best_8 : decode cX9_best 8 = .ok (.invokestatic 66, 3) := by decide +kernel
theorem dX9_best_11 : decode cX9_best 11 = .ok (.ifCond .ne 5, 3) := by decide +kernel
theorem dX9_best_14 : decode cX9_best 14 = .ok (.iconst (-1), 1) := by decide +kernel
theorem dX9_best_15 : decode cX9_best 15 = .ok (.ireturn, 1) := by decide +kernel
theorem dX9_best_16 : decode cX9_best 16 = .ok (.iconst (-1), 1) := by decide +kernel
theorem dX9_best_17 : decode cX9_best 17 = .ok (.istore_n 2, 1) := by decide +kernel
theorem dX9_best_18 : decode cX9_best 18 = .ok (.bipush (-9), 2) := by decide +kernel
theorem dX9_best_20 : decode cX9_best 20 = .ok (.istore_n 3, 1) := by decide +kernel
theorem dX9_best_21 : decode cX9_best 21 = .ok (.iconst 0, 1) := by decide +kernel
theorem dX9_best_22 : decode cX9_best 22 = .ok (.istore 4, 2) := by decide +kernel
theorem dX9_best_24 : decode cX9_best 24 = .ok (.iload 4, 2) := by decide +kernel
theorem dX9_best_26 : decode cX9_best 26 = .ok (.aload_n 0, 1) := by decide +kernel
theorem dX9_best_27 : decode cX9_best 27 = .ok (.getfield 7, 3) := by decide +kernel
theorem dX9_best_30 : decode cX9_best 30 = .ok (.iconst 0, 1) := by decide +kernel
theorem dX9_best_31 : decode cX9_best 31 = .ok (.iaload, 1) := by decide +kernel
theorem dX9_best_32 : decode cX9_best 32 = .ok (.if_icmp .ge 161, 3) := by decide +kernel
theorem dX9_best_35 : decode cX9_best 35 = .ok (.iload 4, 2) := by decide +kernel
theorem dX9_best_37 : decode cX9_best 37 = .ok (.iconst 1, 1) := by decide +kernel
theorem dX9_best_38 : decode cX9_best 38 = .ok (.iadd, 1) := by decide +kernel
theorem dX9_best_39 : decode cX9_best 39 = .ok (.istore 5, 2) := by decide +kernel
theorem dX9_best_41 : decode cX9_best 41 = .ok (.iload 5, 2) := by decide +kernel
theorem dX9_best_43 : decode cX9_best 43 = .ok (.aload_n 0, 1) := by decide +kernel
theorem dX9_best_44 : decode cX9_best 44 = .ok (.getfield 7, 3) := by decide +kernel
theorem dX9_best_47 : decode cX9_best 47 = .ok (.iconst 0, 1) := by decide +kernel
theorem dX9_best_48 : decode cX9_best 48 = .ok (.iaload, 1) := by decide +kernel
theorem dX9_best_49 : decode cX9_best 49 = .ok (.if_icmp .ge 138, 3) := by decide +kernel
theorem dX9_best_52 : decode cX9_best 52 = .ok (.aload_n 0, 1) := by decide +kernel
theorem dX9_best_53 : decode cX9_best 53 = .ok (.aload_n 0, 1) := by decide +kernel
theorem dX9_best_54 : decode cX9_best 54 = .ok (.invokevirtual 151, 3) := by decide +kernel
theorem dX9_best_57 : decode cX9_best 57 = .ok (.iconst 2, 1) := by decide +kernel
theorem dX9_best_58 : decode cX9_best 58 = .ok (.iconst 2, 1) := by decide +kernel
theorem dX9_best_59 : decode cX9_best 59 = .ok (.iload 4, 2) := by decide +kernel
theorem dX9_best_61 : decode cX9_best 61 = .ok (.imul, 1) := by decide +kernel
theorem dX9_best_62 : decode cX9_best 62 = .ok (.iadd, 1) := by decide +kernel
theorem dX9_best_63 : decode cX9_best 63 = .ok (.iconst 2, 1) := by decide +kernel
theorem dX9_best_64 : decode cX9_best 64 = .ok (.iconst 2, 1) := by decide +kernel
theorem dX9_best_65 : decode cX9_best 65 = .ok (.iload 5, 2) := by decide +kernel
theorem dX9_best_67 : decode cX9_best 67 = .ok (.imul, 1) := by decide +kernel
theorem dX9_best_68 : decode cX9_best 68 = .ok (.iadd, 1) := by decide +kernel
theorem dX9_best_69 : decode cX9_best 69 = .ok (.invokevirtual 157, 3) := by decide +kernel
theorem dX9_best_72 : decode cX9_best 72 = .ok (.ifCond .ne 109, 3) := by decide +kernel
theorem dX9_best_75 : decode cX9_best 75 = .ok (.iconst 0, 1) := by decide +kernel
theorem dX9_best_76 : decode cX9_best 76 = .ok (.istore 6, 2) := by decide +kernel
theorem dX9_best_78 : decode cX9_best 78 = .ok (.iconst 0, 1) := by decide +kernel
theorem dX9_best_79 : decode cX9_best 79 = .ok (.istore 7, 2) := by decide +kernel
theorem dX9_best_81 : decode cX9_best 81 = .ok (.iload 7, 2) := by decide +kernel
theorem dX9_best_83 : decode cX9_best 83 = .ok (.iconst 3, 1) := by decide +kernel
theorem dX9_best_84 : decode cX9_best 84 = .ok (.if_icmp .ge 37, 3) := by decide +kernel
theorem dX9_best_87 : decode cX9_best 87 = .ok (.aload_n 0, 1) := by decide +kernel
theorem dX9_best_88 : decode cX9_best 88 = .ok (.iload 4, 2) := by decide +kernel
theorem dX9_best_90 : decode cX9_best 90 = .ok (.iload 5, 2) := by decide +kernel
theorem dX9_best_92 : decode cX9_best 92 = .ok (.iload 7, 2) := by decide +kernel
theorem dX9_best_94 : decode cX9_best 94 = .ok (.invokevirtual 171, 3) := by decide +kernel
theorem dX9_best_97 : decode cX9_best 97 = .ok (.istore 8, 2) := by decide +kernel
theorem dX9_best_99 : decode cX9_best 99 = .ok (.iload 8, 2) := by decide +kernel
theorem dX9_best_101 : decode cX9_best 101 = .ok (.iload 6, 2) := by decide +kernel
theorem dX9_best_103 : decode cX9_best 103 = .ok (.if_icmp .le 8, 3) := by decide +kernel
theorem dX9_best_106 : decode cX9_best 106 = .ok (.iload 8, 2) := by decide +kernel
theorem dX9_best_108 : decode cX9_best 108 = .ok (.goto 5, 3) := by decide +kernel
theorem dX9_best_111 : decode cX9_best 111 = .ok (.iload 6, 2) := by decide +kernel
theorem dX9_best_113 : decode cX9_best 113 = .ok (.istore 6, 2) := by decide +kernel
theorem dX9_best_115 : decode cX9_best 115 = .ok (.iinc 7 1, 3) := by decide +kernel
theorem dX9_best_118 : decode cX9_best 118 = .ok (.goto (-37), 3) := by decide +kernel
theorem dX9_best_121 : decode cX9_best 121 = .ok (.iload_n 2, 1) := by decide +kernel
theorem dX9_best_122 : decode cX9_best 122 = .ok (.ifCond .lt 9, 3) := by decide +kernel
theorem dX9_best_125 : decode cX9_best 125 = .ok (.iload 6, 2) := by decide +kernel
theorem dX9_best_127 : decode cX9_best 127 = .ok (.iload_n 2, 1) := by decide +kernel
theorem dX9_best_128 : decode cX9_best 128 = .ok (.if_icmp .ge 7, 3) := by decide +kernel
theorem dX9_best_131 : decode cX9_best 131 = .ok (.iconst 1, 1) := by decide +kernel
theorem dX9_best_132 : decode cX9_best 132 = .ok (.goto 4, 3) := by decide +kernel
theorem dX9_best_135 : decode cX9_best 135 = .ok (.iconst 0, 1) := by decide +kernel
theorem dX9_best_136 : decode cX9_best 136 = .ok (.istore 7, 2) := by decide +kernel
theorem dX9_best_138 : decode cX9_best 138 = .ok (.iload 7, 2) := by decide +kernel
theorem dX9_best_140 : decode cX9_best 140 = .ok (.ifCond .eq 27, 3) := by decide +kernel
theorem dX9_best_143 : decode cX9_best 143 = .ok (.iload_n 1, 1) := by decide +kernel
theorem dX9_best_144 : decode cX9_best 144 = .ok (.ifCond .ne 8, 3) := by decide +kernel
theorem dX9_best_147 : decode cX9_best 147 = .ok (.iload 4, 2) := by decide +kernel
theorem dX9_best_149 : decode cX9_best 149 = .ok (.goto 19, 3) := by decide +kernel
theorem dX9_best_152 : decode cX9_best 152 = .ok (.iload_n 1, 1) := by decide +kernel
theorem dX9_best_153 : decode cX9_best 153 = .ok (.iconst 1, 1) := by decide +kernel
theorem dX9_best_154 : decode cX9_best 154 = .ok (.if_icmp .ne 8, 3) := by decide +kernel
theorem dX9_best_157 : decode cX9_best 157 = .ok (.iload 5, 2) := by decide +kernel
theorem dX9_best_159 : decode cX9_best 159 = .ok (.goto 9, 3) := by decide +kernel
theorem dX9_best_162 : decode cX9_best 162 = .ok (.iload 6, 2) := by decide +kernel
theorem dX9_best_164 : decode cX9_best 164 = .ok (.goto 4, 3) := by decide +kernel
theorem dX9_best_167 : decode cX9_best 167 = .ok (.iload_n 3, 1) := by decide +kernel
theorem dX9_best_168 : decode cX9_best 168 = .ok (.istore_n 3, 1) := by decide +kernel
theorem dX9_best_169 : decode cX9_best 169 = .ok (.iload 7, 2) := by decide +kernel
theorem dX9_best_171 : decode cX9_best 171 = .ok (.ifCond .eq 8, 3) := by decide +kernel
theorem dX9_best_174 : decode cX9_best 174 = .ok (.iload 6, 2) := by decide +kernel
theorem dX9_best_176 : decode cX9_best 176 = .ok (.goto 4, 3) := by decide +kernel
theorem dX9_best_179 : decode cX9_best 179 = .ok (.iload_n 2, 1) := by decide +kernel
theorem dX9_best_180 : decode cX9_best 180 = .ok (.istore_n 2, 1) := by decide +kernel
theorem dX9_best_181 : decode cX9_best 181 = .ok (.iinc 5 1, 3) := by decide +kernel
theorem dX9_best_184 : decode cX9_best 184 = .ok (.goto (-143), 3) := by decide +kernel
theorem dX9_best_187 : decode cX9_best 187 = .ok (.iinc 4 1, 3) := by decide +kernel
theorem dX9_best_190 : decode cX9_best 190 = .ok (.goto (-166), 3) := by decide +kernel
theorem dX9_best_193 : decode cX9_best 193 = .ok (.iload_n 3, 1) := by decide +kernel
theorem dX9_best_194 : decode cX9_best 194 = .ok (.ireturn, 1) := by decide +kernel
theorem dX9_notes_0 : decode cX9_notes 0 = .ok (.aload_n 0, 1) := by decide +kernel
theorem dX9_notes_1 : decode cX9_notes 1 = .ok (.getfield 105, 3) := by decide +kernel
theorem dX9_notes_4 : decode cX9_notes 4 = .ok (.bipush 10, 2) := by decide +kernel
theorem dX9_notes_6 : decode cX9_notes 6 = .ok (.if_icmp .ne 43, 3) := by decide +kernel
theorem dX9_notes_9 : decode cX9_notes 9 = .ok (.iconst 0, 1) := by decide +kernel
theorem dX9_notes_10 : decode cX9_notes 10 = .ok (.istore_n 1, 1) := by decide +kernel
theorem dX9_notes_11 : decode cX9_notes 11 = .ok (.iload_n 1, 1) := by decide +kernel
theorem dX9_notes_12 : decode cX9_notes 12 = .ok (.sipush 666, 3) := by decide +kernel
theorem dX9_notes_15 : decode cX9_notes 15 = .ok (.if_icmp .ge 24, 3) := by decide +kernel
theorem dX9_notes_18 : decode cX9_notes 18 = .ok (.aload_n 0, 1) := by decide +kernel
theorem dX9_notes_19 : decode cX9_notes 19 = .ok (.getfield 16, 3) := by decide +kernel
theorem dX9_notes_22 : decode cX9_notes 22 = .ok (.iload_n 1, 1) := by decide +kernel
theorem dX9_notes_23 : decode cX9_notes 23 = .ok (.aload_n 0, 1) := by decide +kernel
theorem dX9_notes_24 : decode cX9_notes 24 = .ok (.getfield 16, 3) := by decide +kernel
theorem dX9_notes_27 : decode cX9_notes 27 = .ok (.iload_n 1, 1) := by decide +kernel
theorem dX9_notes_28 : decode cX9_notes 28 = .ok (.bipush 74, 2) := by decide +kernel
theorem dX9_notes_30 : decode cX9_notes 30 = .ok (.iadd, 1) := by decide +kernel
theorem dX9_notes_31 : decode cX9_notes 31 = .ok (.iaload, 1) := by decide +kernel
theorem dX9_notes_32 : decode cX9_notes 32 = .ok (.iastore, 1) := by decide +kernel
theorem dX9_notes_33 : decode cX9_notes 33 = .ok (.iinc 1 1, 3) := by decide +kernel
theorem dX9_notes_36 : decode cX9_notes 36 = .ok (.goto (-25), 3) := by decide +kernel
theorem dX9_notes_39 : decode cX9_notes 39 = .ok (.aload_n 0, 1) := by decide +kernel
theorem dX9_notes_40 : decode cX9_notes 40 = .ok (.dup, 1) := by decide +kernel
theorem dX9_notes_41 : decode cX9_notes 41 = .ok (.getfield 105, 3) := by decide +kernel
theorem dX9_notes_44 : decode cX9_notes 44 = .ok (.iconst 1, 1) := by decide +kernel
theorem dX9_notes_45 : decode cX9_notes 45 = .ok (.isub, 1) := by decide +kernel
theorem dX9_notes_46 : decode cX9_notes 46 = .ok (.putfield 105, 3) := by decide +kernel
theorem dX9_notes_49 : decode cX9_notes 49 = .ok (.iconst 0, 1) := by decide +kernel
theorem dX9_notes_50 : decode cX9_notes 50 = .ok (.istore_n 1, 1) := by decide +kernel
theorem dX9_notes_51 : decode cX9_notes 51 = .ok (.iload_n 1, 1) := by decide +kernel
theorem dX9_notes_52 : decode cX9_notes 52 = .ok (.bipush 74, 2) := by decide +kernel
theorem dX9_notes_54 : decode cX9_notes 54 = .ok (.if_icmp .ge 29, 3) := by decide +kernel
theorem dX9_notes_57 : decode cX9_notes 57 = .ok (.aload_n 0, 1) := by decide +kernel
theorem dX9_notes_58 : decode cX9_notes 58 = .ok (.getfield 16, 3) := by decide +kernel
theorem dX9_notes_61 : decode cX9_notes 61 = .ok (.bipush 74, 2) := by decide +kernel
theorem dX9_notes_63 : decode cX9_notes 63 = .ok (.aload_n 0, 1) := by decide +kernel
theorem dX9_notes_64 : decode cX9_notes 64 = .ok (.getfield 105, 3) := by decide +kernel
theorem dX9_notes_67 : decode cX9_notes 67 = .ok (.imul, 1) := by decide +kernel
theorem dX9_notes_68 : decode cX9_notes 68 = .ok (.iload_n 1, 1) := by decide +kernel
theorem dX9_notes_69 : decode cX9_notes 69 = .ok (.iadd, 1) := by decide +kernel
theorem dX9_notes_70 : decode cX9_notes 70 = .ok (.aload_n 0, 1) := by decide +kernel
theorem dX9_notes_71 : decode cX9_notes 71 = .ok (.getfield 7, 3) := by decide +kernel
theorem dX9_notes_74 : decode cX9_notes 74 = .ok (.iload_n 1, 1) := by decide +kernel
theorem dX9_notes_75 : decode cX9_notes 75 = .ok (.iaload, 1) := by decide +kernel
theorem dX9_notes_76 : decode cX9_notes 76 = .ok (.iastore, 1) := by decide +kernel
theorem dX9_notes_77 : decode cX9_notes 77 = .ok (.iinc 1 1, 3) := by decide +kernel
theorem dX9_notes_80 : decode cX9_notes 80 = .ok (.goto (-29), 3) := by decide +kernel
theorem dX9_notes_83 : decode cX9_notes 83 = .ok (.aload_n 0, 1) := by decide +kernel
theorem dX9_notes_84 : decode cX9_notes 84 = .ok (.dup, 1) := by decide +kernel
theorem dX9_notes_85 : decode cX9_notes 85 = .ok (.getfield 105, 3) := by decide +kernel
theorem dX9_notes_88 : decode cX9_notes 88 = .ok (.iconst 1, 1) := by decide +kernel
theorem dX9_notes_89 : decode cX9_notes 89 = .ok (.iadd, 1) := by decide +kernel
theorem dX9_notes_90 : decode cX9_notes 90 = .ok (.putfield 105, 3) := by decide +kernel
theorem dX9_notes_93 : decode cX9_notes 93 = .ok (.return_, 1) := by decide +kernel
theorem dX9_says_0 : decode cX9_says 0 = .ok (.aload_n 0, 1) := by decide +kernel
theorem dX9_says_1 : decode cX9_says 1 = .ok (.iconst 0, 1) := by decide +kernel
theorem dX9_says_2 : decode cX9_says 2 = .ok (.putfield 63, 3) := by decide +kernel
theorem dX9_says_5 : decode cX9_says 5 = .ok (.aload_n 0, 1) := by decide +kernel
theorem dX9_says_6 : decode cX9_says 6 = .ok (.iload_n 1, 1) := by decide +kernel
theorem dX9_says_7 : decode cX9_says 7 = .ok (.invokevirtual 161, 3) := by decide +kernel
theorem dX9_says_10 : decode cX9_says 10 = .ok (.ifCond .eq 25, 3) := by decide +kernel
theorem dX9_says_13 : decode cX9_says 13 = .ok (.aload_n 0, 1) := by decide +kernel
theorem dX9_says_14 : decode cX9_says 14 = .ok (.iload_n 3, 1) := by decide +kernel
theorem dX9_says_15 : decode cX9_says 15 = .ok (.invokevirtual 161, 3) := by decide +kernel
theorem dX9_says_18 : decode cX9_says 18 = .ok (.ifCond .eq 17, 3) := by decide +kernel
theorem dX9_says_21 : decode cX9_says 21 = .ok (.iload_n 1, 1) := by decide +kernel
theorem dX9_says_22 : decode cX9_says 22 = .ok (.iload_n 3, 1) := by decide +kernel
theorem dX9_says_23 : decode cX9_says 23 = .ok (.if_icmp .eq 12, 3) := by decide +kernel
theorem dX9_says_26 : decode cX9_says 26 = .ok (.iload_n 2, 1) := by decide +kernel
theorem dX9_says_27 : decode cX9_says 27 = .ok (.iconst 0, 1) := by decide +kernel
theorem dX9_says_28 : decode cX9_says 28 = .ok (.iconst 1, 1) := by decide +kernel
theorem dX9_says_29 : decode cX9_says 29 = .ok (.invokestatic 66, 3) := by decide +kernel
theorem dX9_says_32 : decode cX9_says 32 = .ok (.ifCond .ne 5, 3) := by decide +kernel
theorem dX9_says_35 : decode cX9_says 35 = .ok (.iconst (-1), 1) := by decide +kernel
theorem dX9_says_36 : decode cX9_says 36 = .ok (.ireturn, 1) := by decide +kernel
theorem dX9_says_37 : decode cX9_says 37 = .ok (.aload_n 0, 1) := by decide +kernel
theorem dX9_says_38 : decode cX9_says 38 = .ok (.invokevirtual 174, 3) := by decide +kernel
theorem dX9_says_41 : decode cX9_says 41 = .ok (.bipush 6, 2) := by decide +kernel
theorem dX9_says_43 : decode cX9_says 43 = .ok (.if_icmp .ne 6, 3) := by decide +kernel
theorem dX9_says_46 : decode cX9_says 46 = .ok (.bipush (-3), 2) := by decide +kernel
theorem dX9_says_48 : decode cX9_says 48 = .ok (.ireturn, 1) := by decide +kernel
theorem dX9_says_49 : decode cX9_says 49 = .ok (.aload_n 0, 1) := by decide +kernel
theorem dX9_says_50 : decode cX9_says 50 = .ok (.invokevirtual 177, 3) := by decide +kernel
theorem dX9_says_53 : decode cX9_says 53 = .ok (.bipush 18, 2) := by decide +kernel
theorem dX9_says_55 : decode cX9_says 55 = .ok (.iconst 4, 1) := by decide +kernel
theorem dX9_says_56 : decode cX9_says 56 = .ok (.aload_n 0, 1) := by decide +kernel
theorem dX9_says_57 : decode cX9_says 57 = .ok (.getfield 7, 3) := by decide +kernel
theorem dX9_says_60 : decode cX9_says 60 = .ok (.iconst 1, 1) := by decide +kernel
theorem dX9_says_61 : decode cX9_says 61 = .ok (.iaload, 1) := by decide +kernel
theorem dX9_says_62 : decode cX9_says 62 = .ok (.imul, 1) := by decide +kernel
theorem dX9_says_63 : decode cX9_says 63 = .ok (.iadd, 1) := by decide +kernel
theorem dX9_says_64 : decode cX9_says 64 = .ok (.istore 4, 2) := by decide +kernel
theorem dX9_says_66 : decode cX9_says 66 = .ok (.aload_n 0, 1) := by decide +kernel
theorem dX9_says_67 : decode cX9_says 67 = .ok (.getfield 7, 3) := by decide +kernel
theorem dX9_says_70 : decode cX9_says 70 = .ok (.iload 4, 2) := by decide +kernel
theorem dX9_says_72 : decode cX9_says 72 = .ok (.bipush (-9), 2) := by decide +kernel
theorem dX9_says_74 : decode cX9_says 74 = .ok (.iastore, 1) := by decide +kernel
theorem dX9_says_75 : decode cX9_says 75 = .ok (.aload_n 0, 1) := by decide +kernel
theorem dX9_says_76 : decode cX9_says 76 = .ok (.getfield 7, 3) := by decide +kernel
theorem dX9_says_79 : decode cX9_says 79 = .ok (.iload 4, 2) := by decide +kernel
theorem dX9_says_81 : decode cX9_says 81 = .ok (.iconst 1, 1) := by decide +kernel
theorem dX9_says_82 : decode cX9_says 82 = .ok (.iadd, 1) := by decide +kernel
theorem dX9_says_83 : decode cX9_says 83 = .ok (.iload_n 1, 1) := by decide +kernel
theorem dX9_says_84 : decode cX9_says 84 = .ok (.iastore, 1) := by decide +kernel
theorem dX9_says_85 : decode cX9_says 85 = .ok (.aload_n 0, 1) := by decide +kernel
theorem dX9_says_86 : decode cX9_says 86 = .ok (.getfield 7, 3) := by decide +kernel
theorem dX9_says_89 : decode cX9_says 89 = .ok (.iload 4, 2) := by decide +kernel
theorem dX9_says_91 : decode cX9_says 91 = .ok (.iconst 2, 1) := by decide +kernel
theorem dX9_says_92 : decode cX9_says 92 = .ok (.iadd, 1) := by decide +kernel
theorem dX9_says_93 : decode cX9_says 93 = .ok (.iload_n 2, 1) := by decide +kernel
theorem dX9_says_94 : decode cX9_says 94 = .ok (.iastore, 1) := by decide +kernel
theorem dX9_says_95 : decode cX9_says 95 = .ok (.aload_n 0, 1) := by decide +kernel
theorem dX9_says_96 : decode cX9_says 96 = .ok (.getfield 7, 3) := by decide +kernel
theorem dX9_says_99 : decode cX9_says 99 = .ok (.iload 4, 2) := by decide +kernel
theorem dX9_says_101 : decode cX9_says 101 = .ok (.iconst 3, 1) := by decide +kernel
theorem dX9_says_102 : decode cX9_says 102 = .ok (.iadd, 1) := by decide +kernel
theorem dX9_says_103 : decode cX9_says 103 = .ok (.iload_n 3, 1) := by decide +kernel
theorem dX9_says_104 : decode cX9_says 104 = .ok (.iastore, 1) := by decide +kernel
theorem dX9_says_105 : decode cX9_says 105 = .ok (.aload_n 0, 1) := by decide +kernel
theorem dX9_says_106 : decode cX9_says 106 = .ok (.getfield 7, 3) := by decide +kernel
theorem dX9_says_109 : decode cX9_says 109 = .ok (.iconst 1, 1) := by decide +kernel
theorem dX9_says_110 : decode cX9_says 110 = .ok (.dup2, 1) := by decide +kernel
theorem dX9_says_111 : decode cX9_says 111 = .ok (.iaload, 1) := by decide +kernel
theorem dX9_says_112 : decode cX9_says 112 = .ok (.iconst 1, 1) := by decide +kernel
theorem dX9_says_113 : decode cX9_says 113 = .ok (.iadd, 1) := by decide +kernel
theorem dX9_says_114 : decode cX9_says 114 = .ok (.iastore, 1) := by decide +kernel
theorem dX9_says_115 : decode cX9_says 115 = .ok (.aload_n 0, 1) := by decide +kernel
theorem dX9_says_116 : decode cX9_says 116 = .ok (.getfield 7, 3) := by decide +kernel
theorem dX9_says_119 : decode cX9_says 119 = .ok (.iconst 1, 1) := by decide +kernel
theorem dX9_says_120 : decode cX9_says 120 = .ok (.iaload, 1) := by decide +kernel
theorem dX9_says_121 : decode cX9_says 121 = .ok (.ireturn, 1) := by decide +kernel
theorem dX9_takes_0 : decode cX9_takes 0 = .ok (.aload_n 0, 1) := by decide +kernel
theorem dX9_takes_1 : decode cX9_takes 1 = .ok (.iconst 0, 1) := by decide +kernel
theorem dX9_takes_2 : decode cX9_takes 2 = .ok (.putfield 63, 3) := by decide +kernel
theorem dX9_takes_5 : decode cX9_takes 5 = .ok (.aload_n 0, 1) := by decide +kernel
theorem dX9_takes_6 : decode cX9_takes 6 = .ok (.iload_n 1, 1) := by decide +kernel
theorem dX9_takes_7 : decode cX9_takes 7 = .ok (.invokevirtual 148, 3) := by decide +kernel
theorem dX9_takes_10 : decode cX9_takes 10 = .ok (.ifCond .eq 14, 3) := by decide +kernel
theorem dX9_takes_13 : decode cX9_takes 13 = .ok (.aload_n 0, 1) := by decide +kernel
theorem dX9_takes_14 : decode cX9_takes 14 = .ok (.iload_n 1, 1) := by decide +kernel
theorem dX9_takes_15 : decode cX9_takes 15 = .ok (.iconst 0, 1) := by decide +kernel
theorem dX9_takes_16 : decode cX9_takes 16 = .ok (.invokevirtual 118, 3) := by decide +kernel
theorem dX9_takes_19 : decode cX9_takes 19 = .ok (.bipush (-9), 2) := by decide +kernel
theorem dX9_takes_21 : decode cX9_takes 21 = .ok (.if_icmp .eq 5, 3) := by decide +kernel
theorem dX9_takes_24 : decode cX9_takes 24 = .ok (.iconst (-1), 1) := by decide +kernel
theorem dX9_takes_25 : decode cX9_takes 25 = .ok (.ireturn, 1) := by decide +kernel
theorem dX9_takes_26 : decode cX9_takes 26 = .ok (.aload_n 0, 1) := by decide +kernel
theorem dX9_takes_27 : decode cX9_takes 27 = .ok (.invokevirtual 177, 3) := by decide +kernel
theorem dX9_takes_30 : decode cX9_takes 30 = .ok (.aload_n 0, 1) := by decide +kernel
theorem dX9_takes_31 : decode cX9_takes 31 = .ok (.getfield 7, 3) := by decide +kernel
theorem dX9_takes_34 : decode cX9_takes 34 = .ok (.iconst 1, 1) := by decide +kernel
theorem dX9_takes_35 : decode cX9_takes 35 = .ok (.dup2, 1) := by decide +kernel
theorem dX9_takes_36 : decode cX9_takes 36 = .ok (.iaload, 1) := by decide +kernel
theorem dX9_takes_37 : decode cX9_takes 37 = .ok (.iconst 1, 1) := by decide +kernel
theorem dX9_takes_38 : decode cX9_takes 38 = .ok (.isub, 1) := by decide +kernel
theorem dX9_takes_39 : decode cX9_takes 39 = .ok (.iastore, 1) := by decide +kernel
theorem dX9_takes_40 : decode cX9_takes 40 = .ok (.bipush 18, 2) := by decide +kernel
theorem dX9_takes_42 : decode cX9_takes 42 = .ok (.iconst 4, 1) := by decide +kernel
theorem dX9_takes_43 : decode cX9_takes 43 = .ok (.iload_n 1, 1) := by decide +kernel
theorem dX9_takes_44 : decode cX9_takes 44 = .ok (.imul, 1) := by decide +kernel
theorem dX9_takes_45 : decode cX9_takes 45 = .ok (.iadd, 1) := by decide +kernel
theorem dX9_takes_46 : decode cX9_takes 46 = .ok (.istore_n 2, 1) := by decide +kernel
theorem dX9_takes_47 : decode cX9_takes 47 = .ok (.iload_n 2, 1) := by decide +kernel
theorem dX9_takes_48 : decode cX9_takes 48 = .ok (.bipush 18, 2) := by decide +kernel
theorem dX9_takes_50 : decode cX9_takes 50 = .ok (.iconst 4, 1) := by decide +kernel
theorem dX9_takes_51 : decode cX9_takes 51 = .ok (.aload_n 0, 1) := by decide +kernel
theorem dX9_takes_52 : decode cX9_takes 52 = .ok (.getfield 7, 3) := by decide +kernel
theorem dX9_takes_55 : decode cX9_takes 55 = .ok (.iconst 1, 1) := by decide +kernel
theorem dX9_takes_56 : decode cX9_takes 56 = .ok (.iaload, 1) := by decide +kernel
theorem dX9_takes_57 : decode cX9_takes 57 = .ok (.imul, 1) := by decide +kernel
theorem dX9_takes_58 : decode cX9_takes 58 = .ok (.iadd, 1) := by decide +kernel
theorem dX9_takes_59 : decode cX9_takes 59 = .ok (.if_icmp .ge 23, 3) := by decide +kernel
theorem dX9_takes_62 : decode cX9_takes 62 = .ok (.aload_n 0, 1) := by decide +kernel
theorem dX9_takes_63 : decode cX9_takes 63 = .ok (.getfield 7, 3) := by decide +kernel
theorem dX9_takes_66 : decode cX9_takes 66 = .ok (.iload_n 2, 1) := by decide +kernel
theorem dX9_takes_67 : decode cX9_takes 67 = .ok (.aload_n 0, 1) := by decide +kernel
theorem dX9_takes_68 : decode cX9_takes 68 = .ok (.getfield 7, 3) := by decide +kernel
theorem dX9_takes_71 : decode cX9_takes 71 = .ok (.iload_n 2, 1) := by decide +kernel
theorem dX9_takes_72 : decode cX9_takes 72 = .ok (.iconst 4, 1) := by decide +kernel
theorem dX9_takes_73 : decode cX9_takes 73 = .ok (.iadd, 1) := by decide +kernel
theorem dX9_takes_74 : decode cX9_takes 74 = .ok (.iaload, 1) := by decide +kernel
theorem dX9_takes_75 : decode cX9_takes 75 = .ok (.iastore, 1) := by decide +kernel
theorem dX9_takes_76 : decode cX9_takes 76 = .ok (.iinc 2 1, 3) := by decide +kernel
theorem dX9_takes_79 : decode cX9_takes 79 = .ok (.goto (-32), 3) := by decide +kernel
theorem dX9_takes_82 : decode cX9_takes 82 = .ok (.aload_n 0, 1) := by decide +kernel
theorem dX9_takes_83 : decode cX9_takes 83 = .ok (.getfield 7, 3) := by decide +kernel
theorem dX9_takes_86 : decode cX9_takes 86 = .ok (.iconst 1, 1) := by decide +kernel
theorem dX9_takes_87 : decode cX9_takes 87 = .ok (.iaload, 1) := by decide +kernel
theorem dX9_takes_88 : decode cX9_takes 88 = .ok (.ireturn, 1) := by decide +kernel
theorem dX9_becomes_0 : decode cX9_becomes 0 = .ok (.aload_n 0, 1) := by decide +kernel
theorem dX9_becomes_1 : decode cX9_becomes 1 = .ok (.getfield 7, 3) := by decide +kernel
theorem dX9_becomes_4 : decode cX9_becomes 4 = .ok (.iload_n 1, 1) := by decide +kernel
theorem dX9_becomes_5 : decode cX9_becomes 5 = .ok (.iaload, 1) := by decide +kernel
theorem dX9_becomes_6 : decode cX9_becomes 6 = .ok (.istore_n 3, 1) := by decide +kernel
theorem dX9_becomes_7 : decode cX9_becomes 7 = .ok (.iload_n 3, 1) := by decide +kernel
theorem dX9_becomes_8 : decode cX9_becomes 8 = .ok (.iload_n 2, 1) := by decide +kernel
theorem dX9_becomes_9 : decode cX9_becomes 9 = .ok (.if_icmp .ne 6, 3) := by decide +kernel
theorem dX9_becomes_12 : decode cX9_becomes 12 = .ok (.bipush (-2), 2) := by decide +kernel
theorem dX9_becomes_14 : decode cX9_becomes 14 = .ok (.ireturn, 1) := by decide +kernel
theorem dX9_becomes_15 : decode cX9_becomes 15 = .ok (.aload_n 0, 1) := by decide +kernel
theorem dX9_becomes_16 : decode cX9_becomes 16 = .ok (.invokevirtual 177, 3) := by decide +kernel
theorem dX9_becomes_19 : decode cX9_becomes 19 = .ok (.aload_n 0, 1) := by decide +kernel
theorem dX9_becomes_20 : decode cX9_becomes 20 = .ok (.getfield 7, 3) := by decide +kernel
theorem dX9_becomes_23 : decode cX9_becomes 23 = .ok (.iload_n 1, 1) := by decide +kernel
theorem dX9_becomes_24 : decode cX9_becomes 24 = .ok (.iload_n 2, 1) := by decide +kernel
theorem dX9_becomes_25 : decode cX9_becomes 25 = .ok (.iastore, 1) := by decide +kernel
theorem dX9_becomes_26 : decode cX9_becomes 26 = .ok (.iload_n 3, 1) := by decide +kernel
theorem dX9_becomes_27 : decode cX9_becomes 27 = .ok (.ireturn, 1) := by decide +kernel
theorem dX9_tenses_0 : decode cX9_tenses 0 = .ok (.aload_n 0, 1) := by decide +kernel
theorem dX9_tenses_1 : decode cX9_tenses 1 = .ok (.iconst 0, 1) := by decide +kernel
theorem dX9_tenses_2 : decode cX9_tenses 2 = .ok (.putfield 63, 3) := by decide +kernel
theorem dX9_tenses_5 : decode cX9_tenses 5 = .ok (.aload_n 0, 1) := by decide +kernel
theorem dX9_tenses_6 : decode cX9_tenses 6 = .ok (.iload_n 1, 1) := by decide +kernel
theorem dX9_tenses_7 : decode cX9_tenses 7 = .ok (.invokevirtual 145, 3) := by decide +kernel
theorem dX9_tenses_10 : decode cX9_tenses 10 = .ok (.ifCond .eq 26, 3) := by decide +kernel
theorem dX9_tenses_13 : decode cX9_tenses 13 = .ok (.iload_n 2, 1) := by decide +kernel
theorem dX9_tenses_14 : decode cX9_tenses 14 = .ok (.iconst 0, 1) := by decide +kernel
theorem dX9_tenses_15 : decode cX9_tenses 15 = .ok (.bipush 7, 2) := by decide +kernel
theorem dX9_tenses_17 : decode cX9_tenses 17 = .ok (.invokestatic 66, 3) := by decide +kernel
theorem dX9_tenses_20 : decode cX9_tenses 20 = .ok (.ifCond .eq 16, 3) := by decide +kernel
theorem dX9_tenses_23 : decode cX9_tenses 23 = .ok (.aload_n 0, 1) := by decide +kernel
theorem dX9_tenses_24 : decode cX9_tenses 24 = .ok (.iconst 2, 1) := by decide +kernel
theorem dX9_tenses_25 : decode cX9_tenses 25 = .ok (.iconst 2, 1) := by decide +kernel
theorem dX9_tenses_26 : decode cX9_tenses 26 = .ok (.iload_n 1, 1) := by decide +kernel
theorem dX9_tenses_27 : decode cX9_tenses 27 = .ok (.imul, 1) := by decide +kernel
theorem dX9_tenses_28 : decode cX9_tenses 28 = .ok (.iadd, 1) := by decide +kernel
theorem dX9_tenses_29 : decode cX9_tenses 29 = .ok (.iload_n 2, 1) := by decide +kernel
theorem dX9_tenses_30 : decode cX9_tenses 30 = .ok (.invokevirtual 180, 3) := by decide +kernel
theorem dX9_tenses_33 : decode cX9_tenses 33 = .ok (.goto 4, 3) := by decide +kernel
theorem dX9_tenses_36 : decode cX9_tenses 36 = .ok (.iconst (-1), 1) := by decide +kernel
theorem dX9_tenses_37 : decode cX9_tenses 37 = .ok (.ireturn, 1) := by decide +kernel
theorem dX9_links_0 : decode cX9_links 0 = .ok (.aload_n 0, 1) := by decide +kernel
theorem dX9_links_1 : decode cX9_links 1 = .ok (.iconst 0, 1) := by decide +kernel
theorem dX9_links_2 : decode cX9_links 2 = .ok (.putfield 63, 3) := by decide +kernel
theorem dX9_links_5 : decode cX9_links 5 = .ok (.aload_n 0, 1) := by decide +kernel
theorem dX9_links_6 : decode cX9_links 6 = .ok (.iload_n 1, 1) := by decide +kernel
theorem dX9_links_7 : decode cX9_links 7 = .ok (.invokevirtual 145, 3) := by decide +kernel
theorem dX9_links_10 : decode cX9_links 10 = .ok (.ifCond .eq 31, 3) := by decide +kernel
theorem dX9_links_13 : decode cX9_links 13 = .ok (.iload_n 1, 1) := by decide +kernel
theorem dX9_links_14 : decode cX9_links 14 = .ok (.ifCond .le 27, 3) := by decide +kernel
theorem dX9_links_17 : decode cX9_links 17 = .ok (.iload_n 2, 1) := by decide +kernel
theorem dX9_links_18 : decode cX9_links 18 = .ok (.iconst 0, 1) := by decide +kernel
theorem dX9_links_19 : decode cX9_links 19 = .ok (.iconst 3, 1) := by decide +kernel
theorem dX9_links_20 : decode cX9_links 20 = .ok (.invokestatic 66, 3) := by decide +kernel
theorem dX9_links_23 : decode cX9_links 23 = .ok (.ifCond .eq 18, 3) := by decide +kernel
theorem dX9_links_26 : decode cX9_links 26 = .ok (.aload_n 0, 1) := by decide +kernel
theorem dX9_links_27 : decode cX9_links 27 = .ok (.iconst 2, 1) := by decide +kernel
theorem dX9_links_28 : decode cX9_links 28 = .ok (.iconst 2, 1) := by decide +kernel
theorem dX9_links_29 : decode cX9_links 29 = .ok (.iload_n 1, 1) := by decide +kernel
theorem dX9_links_30 : decode cX9_links 30 = .ok (.imul, 1) := by decide +kernel
theorem dX9_links_31 : decode cX9_links 31 = .ok (.iadd, 1) := by decide +kernel
theorem dX9_links_32 : decode cX9_links 32 = .ok (.iconst 1, 1) := by decide +kernel
theorem dX9_links_33 : decode cX9_links 33 = .ok (.iadd, 1) := by decide +kernel
theorem dX9_links_34 : decode cX9_links 34 = .ok (.iload_n 2, 1) := by decide +kernel
theorem dX9_links_35 : decode cX9_links 35 = .ok (.invokevirtual 180, 3) := by decide +kernel
theorem dX9_links_38 : decode cX9_links 38 = .ok (.goto 4, 3) := by decide +kernel
theorem dX9_links_41 : decode cX9_links 41 = .ok (.iconst (-1), 1) := by decide +kernel
theorem dX9_links_42 : decode cX9_links 42 = .ok (.ireturn, 1) := by decide +kernel
theorem dX9_undo_0 : decode cX9_undo 0 = .ok (.aload_n 0, 1) := by decide +kernel
theorem dX9_undo_1 : decode cX9_undo 1 = .ok (.iconst 0, 1) := by decide +kernel
theorem dX9_undo_2 : decode cX9_undo 2 = .ok (.putfield 63, 3) := by decide +kernel
theorem dX9_undo_5 : decode cX9_undo 5 = .ok (.aload_n 0, 1) := by decide +kernel
theorem dX9_undo_6 : decode cX9_undo 6 = .ok (.getfield 105, 3) := by decide +kernel
theorem dX9_undo_9 : decode cX9_undo 9 = .ok (.ifCond .ne 6, 3) := by decide +kernel
theorem dX9_undo_12 : decode cX9_undo 12 = .ok (.bipush (-2), 2) := by decide +kernel
theorem dX9_undo_14 : decode cX9_undo 14 = .ok (.ireturn, 1) := by decide +kernel
theorem dX9_undo_15 : decode cX9_undo 15 = .ok (.aload_n 0, 1) := by decide +kernel
theorem dX9_undo_16 : decode cX9_undo 16 = .ok (.dup, 1) := by decide +kernel
theorem dX9_undo_17 : decode cX9_undo 17 = .ok (.getfield 105, 3) := by decide +kernel
theorem dX9_undo_20 : decode cX9_undo 20 = .ok (.iconst 1, 1) := by decide +kernel
theorem dX9_undo_21 : decode cX9_undo 21 = .ok (.isub, 1) := by decide +kernel
theorem dX9_undo_22 : decode cX9_undo 22 = .ok (.putfield 105, 3) := by decide +kernel
theorem dX9_undo_25 : decode cX9_undo 25 = .ok (.iconst 0, 1) := by decide +kernel
theorem dX9_undo_26 : decode cX9_undo 26 = .ok (.istore_n 1, 1) := by decide +kernel
theorem dX9_undo_27 : decode cX9_undo 27 = .ok (.iload_n 1, 1) := by decide +kernel
theorem dX9_undo_28 : decode cX9_undo 28 = .ok (.bipush 74, 2) := by decide +kernel
theorem dX9_undo_30 : decode cX9_undo 30 = .ok (.if_icmp .ge 29, 3) := by decide +kernel
theorem dX9_undo_33 : decode cX9_undo 33 = .ok (.aload_n 0, 1) := by decide +kernel
theorem dX9_undo_34 : decode cX9_undo 34 = .ok (.getfield 7, 3) := by decide +kernel
theorem dX9_undo_37 : decode cX9_undo 37 = .ok (.iload_n 1, 1) := by decide +kernel
theorem dX9_undo_38 : decode cX9_undo 38 = .ok (.aload_n 0, 1) := by decide +kernel
theorem dX9_undo_39 : decode cX9_undo 39 = .ok (.getfield 16, 3) := by decide +kernel
theorem dX9_undo_42 : decode cX9_undo 42 = .ok (.bipush 74, 2) := by decide +kernel
theorem dX9_undo_44 : decode cX9_undo 44 = .ok (.aload_n 0, 1) := by decide +kernel
theorem dX9_undo_45 : decode cX9_undo 45 = .ok (.getfield 105, 3) := by decide +kernel
theorem dX9_undo_48 : decode cX9_undo 48 = .ok (.imul, 1) := by decide +kernel
theorem dX9_undo_49 : decode cX9_undo 49 = .ok (.iload_n 1, 1) := by decide +kernel
theorem dX9_undo_50 : decode cX9_undo 50 = .ok (.iadd, 1) := by decide +kernel
theorem dX9_undo_51 : decode cX9_undo 51 = .ok (.iaload, 1) := by decide +kernel
theorem dX9_undo_52 : decode cX9_undo 52 = .ok (.iastore, 1) := by decide +kernel
theorem dX9_undo_53 : decode cX9_undo 53 = .ok (.iinc 1 1, 3) := by decide +kernel
theorem dX9_undo_56 : decode cX9_undo 56 = .ok (.goto (-29), 3) := by decide +kernel
theorem dX9_undo_59 : decode cX9_undo 59 = .ok (.aload_n 0, 1) := by decide +kernel
theorem dX9_undo_60 : decode cX9_undo 60 = .ok (.getfield 105, 3) := by decide +kernel
theorem dX9_undo_63 : decode cX9_undo 63 = .ok (.ireturn, 1) := by decide +kernel
theorem dX9_sees_0 : decode cX9_sees 0 = .ok (.aload_n 0, 1) := by decide +kernel
theorem dX9_sees_1 : decode cX9_sees 1 = .ok (.iconst 0, 1) := by decide +kernel
theorem dX9_sees_2 : decode cX9_sees 2 = .ok (.putfield 63, 3) := by decide +kernel
theorem dX9_sees_5 : decode cX9_sees 5 = .ok (.aload_n 0, 1) := by decide +kernel
theorem dX9_sees_6 : decode cX9_sees 6 = .ok (.iload_n 1, 1) := by decide +kernel
theorem dX9_sees_7 : decode cX9_sees 7 = .ok (.invokevirtual 70, 3) := by decide +kernel
theorem dX9_sees_10 : decode cX9_sees 10 = .ok (.ifCond .eq 20, 3) := by decide +kernel
theorem dX9_sees_13 : decode cX9_sees 13 = .ok (.aload_n 0, 1) := by decide +kernel
theorem dX9_sees_14 : decode cX9_sees 14 = .ok (.iload_n 2, 1) := by decide +kernel
theorem dX9_sees_15 : decode cX9_sees 15 = .ok (.invokevirtual 70, 3) := by decide +kernel
theorem dX9_sees_18 : decode cX9_sees 18 = .ok (.ifCond .eq 12, 3) := by decide +kernel
theorem dX9_sees_21 : decode cX9_sees 21 = .ok (.iload_n 3, 1) := by decide +kernel
theorem dX9_sees_22 : decode cX9_sees 22 = .ok (.iconst 0, 1) := by decide +kernel
theorem dX9_sees_23 : decode cX9_sees 23 = .ok (.iconst 4, 1) := by decide +kernel
theorem dX9_sees_24 : decode cX9_sees 24 = .ok (.invokestatic 66, 3) := by decide +kernel
theorem dX9_sees_27 : decode cX9_sees 27 = .ok (.ifCond .ne 5, 3) := by decide +kernel
theorem dX9_sees_30 : decode cX9_sees 30 = .ok (.iconst (-1), 1) := by decide +kernel
theorem dX9_sees_31 : decode cX9_sees 31 = .ok (.ireturn, 1) := by decide +kernel
theorem dX9_sees_32 : decode cX9_sees 32 = .ok (.aload_n 0, 1) := by decide +kernel
theorem dX9_sees_33 : decode cX9_sees 33 = .ok (.getfield 59, 3) := by decide +kernel
theorem dX9_sees_36 : decode cX9_sees 36 = .ok (.bipush 6, 2) := by decide +kernel
theorem dX9_sees_38 : decode cX9_sees 38 = .ok (.if_icmp .ne 6, 3) := by decide +kernel
theorem dX9_sees_41 : decode cX9_sees 41 = .ok (.bipush (-3), 2) := by decide +kernel
theorem dX9_sees_43 : decode cX9_sees 43 = .ok (.ireturn, 1) := by decide +kernel
theorem dX9_sees_44 : decode cX9_sees 44 = .ok (.aload_n 0, 1) := by decide +kernel
theorem dX9_sees_45 : decode cX9_sees 45 = .ok (.getfield 26, 3) := by decide +kernel
theorem dX9_sees_48 : decode cX9_sees 48 = .ok (.aload_n 0, 1) := by decide +kernel
theorem dX9_sees_49 : decode cX9_sees 49 = .ok (.getfield 59, 3) := by decide +kernel
theorem dX9_sees_52 : decode cX9_sees 52 = .ok (.iload_n 1, 1) := by decide +kernel
theorem dX9_sees_53 : decode cX9_sees 53 = .ok (.iastore, 1) := by decide +kernel
theorem dX9_sees_54 : decode cX9_sees 54 = .ok (.aload_n 0, 1) := by decide +kernel
theorem dX9_sees_55 : decode cX9_sees 55 = .ok (.getfield 29, 3) := by decide +kernel
theorem dX9_sees_58 : decode cX9_sees 58 = .ok (.aload_n 0, 1) := by decide +kernel
theorem dX9_sees_59 : decode cX9_sees 59 = .ok (.getfield 59, 3) := by decide +kernel
theorem dX9_sees_62 : decode cX9_sees 62 = .ok (.iload_n 2, 1) := by decide +kernel
theorem dX9_sees_63 : decode cX9_sees 63 = .ok (.iastore, 1) := by decide +kernel
theorem dX9_sees_64 : decode cX9_sees 64 = .ok (.aload_n 0, 1) := by decide +kernel
theorem dX9_sees_65 : decode cX9_sees 65 = .ok (.getfield 32, 3) := by decide +kernel
theorem dX9_sees_68 : decode cX9_sees 68 = .ok (.aload_n 0, 1) := by decide +kernel
theorem dX9_sees_69 : decode cX9_sees 69 = .ok (.getfield 59, 3) := by decide +kernel
theorem dX9_sees_72 : decode cX9_sees 72 = .ok (.iload_n 3, 1) := by decide +kernel
theorem dX9_sees_73 : decode cX9_sees 73 = .ok (.iastore, 1) := by decide +kernel
theorem dX9_sees_74 : decode cX9_sees 74 = .ok (.aload_n 0, 1) := by decide +kernel
theorem dX9_sees_75 : decode cX9_sees 75 = .ok (.dup, 1) := by decide +kernel
theorem dX9_sees_76 : decode cX9_sees 76 = .ok (.getfield 59, 3) := by decide +kernel
theorem dX9_sees_79 : decode cX9_sees 79 = .ok (.iconst 1, 1) := by decide +kernel
theorem dX9_sees_80 : decode cX9_sees 80 = .ok (.iadd, 1) := by decide +kernel
theorem dX9_sees_81 : decode cX9_sees 81 = .ok (.putfield 59, 3) := by decide +kernel
theorem dX9_sees_84 : decode cX9_sees 84 = .ok (.aload_n 0, 1) := by decide +kernel
theorem dX9_sees_85 : decode cX9_sees 85 = .ok (.getfield 59, 3) := by decide +kernel
theorem dX9_sees_88 : decode cX9_sees 88 = .ok (.ireturn, 1) := by decide +kernel
theorem dX9_forget_0 : decode cX9_forget 0 = .ok (.aload_n 0, 1) := by decide +kernel
theorem dX9_forget_1 : decode cX9_forget 1 = .ok (.iconst 0, 1) := by decide +kernel
theorem dX9_forget_2 : decode cX9_forget 2 = .ok (.putfield 63, 3) := by decide +kernel
theorem dX9_forget_5 : decode cX9_forget 5 = .ok (.aload_n 0, 1) := by decide +kernel
theorem dX9_forget_6 : decode cX9_forget 6 = .ok (.getfield 59, 3) := by decide +kernel
theorem dX9_forget_9 : decode cX9_forget 9 = .ok (.istore_n 1, 1) := by decide +kernel
theorem dX9_forget_10 : decode cX9_forget 10 = .ok (.aload_n 0, 1) := by decide +kernel
theorem dX9_forget_11 : decode cX9_forget 11 = .ok (.iconst 0, 1) := by decide +kernel
theorem dX9_forget_12 : decode cX9_forget 12 = .ok (.putfield 59, 3) := by decide +kernel
theorem dX9_forget_15 : decode cX9_forget 15 = .ok (.iload_n 1, 1) := by decide +kernel
theorem dX9_forget_16 : decode cX9_forget 16 = .ok (.ireturn, 1) := by decide +kernel
theorem dX9_unseen_0 : decode cX9_unseen 0 = .ok (.aload_n 0, 1) := by decide +kernel
theorem dX9_unseen_1 : decode cX9_unseen 1 = .ok (.iconst 0, 1) := by decide +kernel
theorem dX9_unseen_2 : decode cX9_unseen 2 = .ok (.putfield 63, 3) := by decide +kernel
theorem dX9_unseen_5 : decode cX9_unseen 5 = .ok (.iconst 0, 1) := by decide +kernel
theorem dX9_unseen_6 : decode cX9_unseen 6 = .ok (.istore_n 1, 1) := by decide +kernel
theorem dX9_unseen_7 : decode cX9_unseen 7 = .ok (.iconst 0, 1) := by decide +kernel
theorem dX9_unseen_8 : decode cX9_unseen 8 = .ok (.istore_n 2, 1) := by decide +kernel
theorem dX9_unseen_9 : decode cX9_unseen 9 = .ok (.iload_n 2, 1) := by decide +kernel
theorem dX9_unseen_10 : decode cX9_unseen 10 = .ok (.aload_n 0, 1) := by decide +kernel
theorem dX9_unseen_11 : decode cX9_unseen 11 = .ok (.getfield 7, 3) := by decide +kernel
theorem dX9_unseen_14 : decode cX9_unseen 14 = .ok (.iconst 1, 1) := by decide +kernel
theorem dX9_unseen_15 : decode cX9_unseen 15 = .ok (.iaload, 1) := by decide +kernel
theorem dX9_unseen_16 : decode cX9_unseen 16 = .ok (.if_icmp .ge 91, 3) := by decide +kernel
theorem dX9_unseen_19 : decode cX9_unseen 19 = .ok (.iconst 1, 1) := by decide +kernel
theorem dX9_unseen_20 : decode cX9_unseen 20 = .ok (.istore_n 3, 1) := by decide +kernel
theorem dX9_unseen_21 : decode cX9_unseen 21 = .ok (.iconst 0, 1) := by decide +kernel
theorem dX9_unseen_22 : decode cX9_unseen 22 = .ok (.istore 4, 2) := by decide +kernel
theorem dX9_unseen_24 : decode cX9_unseen 24 = .ok (.iload 4, 2) := by decide +kernel
theorem dX9_unseen_26 : decode cX9_unseen 26 = .ok (.aload_n 0, 1) := by decide +kernel
theorem dX9_unseen_27 : decode cX9_unseen 27 = .ok (.getfield 59, 3) := by decide +kernel
theorem dX9_unseen_30 : decode cX9_unseen 30 = .ok (.if_icmp .ge 57, 3) := by decide +kernel
theorem dX9_unseen_33 : decode cX9_unseen 33 = .ok (.iload_n 3, 1) := by decide +kernel
theorem dX9_unseen_34 : decode cX9_unseen 34 = .ok (.ifCond .eq 53, 3) := by decide +kernel
theorem dX9_unseen_37 : decode cX9_unseen 37 = .ok (.aload_n 0, 1) := by decide +kernel
theorem dX9_unseen_38 : decode cX9_unseen 38 = .ok (.aload_n 0, 1) := by decide +kernel
theorem dX9_unseen_39 : decode cX9_unseen 39 = .ok (.invokevirtual 151, 3) := by decide +kernel
theorem dX9_unseen_42 : decode cX9_unseen 42 = .ok (.iconst 1, 1) := by decide +kernel
theorem dX9_unseen_43 : decode cX9_unseen 43 = .ok (.iload_n 2, 1) := by decide +kernel
theorem dX9_unseen_44 : decode cX9_unseen 44 = .ok (.ishl, 1) := by decide +kernel
theorem dX9_unseen_45 : decode cX9_unseen 45 = .ok (.iconst (-1), 1) := by decide +kernel
theorem dX9_unseen_46 : decode cX9_unseen 46 = .ok (.ixor, 1) := by decide +kernel
theorem dX9_unseen_47 : decode cX9_unseen 47 = .ok (.iand, 1) := by decide +kernel
theorem dX9_unseen_48 : decode cX9_unseen 48 = .ok (.aload_n 0, 1) := by decide +kernel
theorem dX9_unseen_49 : decode cX9_unseen 49 = .ok (.getfield 26, 3) := by decide +kernel
theorem dX9_unseen_52 : decode cX9_unseen 52 = .ok (.iload 4, 2) := by decide +kernel
theorem dX9_unseen_54 : decode cX9_unseen 54 = .ok (.iaload, 1) := by decide +kernel
theorem dX9_unseen_55 : decode cX9_unseen 55 = .ok (.aload_n 0, 1) := by decide +kernel
theorem dX9_unseen_56 : decode cX9_unseen 56 = .ok (.getfield 29, 3) := by decide +kernel
theorem dX9_unseen_59 : decode cX9_unseen 59 = .ok (.iload 4, 2) := by decide +kernel
theorem dX9_unseen_61 : decode cX9_unseen 61 = .ok (.iaload, 1) := by decide +kernel
theorem dX9_unseen_62 : decode cX9_unseen 62 = .ok (.invokevirtual 157, 3) := by decide +kernel
theorem dX9_unseen_65 : decode cX9_unseen 65 = .ok (.aload_n 0, 1) := by decide +kernel
theorem dX9_unseen_66 : decode cX9_unseen 66 = .ok (.getfield 32, 3) := by decide +kernel
theorem dX9_unseen_69 : decode cX9_unseen 69 = .ok (.iload 4, 2) := by decide +kernel
theorem dX9_unseen_71 : decode cX9_unseen 71 = .ok (.iaload, 1) := by decide +kernel
theorem dX9_unseen_72 : decode cX9_unseen 72 = .ok (.if_icmp .ne 7, 3) := by decide +kernel
theorem dX9_unseen_75 : decode cX9_unseen 75 = .ok (.iconst 1, 1) := by decide +kernel
theorem dX9_unseen_76 : decode cX9_unseen 76 = .ok (.goto 4, 3) := by decide +kernel
theorem dX9_unseen_79 : decode cX9_unseen 79 = .ok (.iconst 0, 1) := by decide +kernel
theorem dX9_unseen_80 : decode cX9_unseen 80 = .ok (.istore_n 3, 1) := by decide +kernel
theorem dX9_unseen_81 : decode cX9_unseen 81 = .ok (.iinc 4 1, 3) := by decide +kernel
theorem dX9_unseen_84 : decode cX9_unseen 84 = .ok (.goto (-60), 3) := by decide +kernel
theorem dX9_unseen_87 : decode cX9_unseen 87 = .ok (.iload_n 1, 1) := by decide +kernel
theorem dX9_unseen_88 : decode cX9_unseen 88 = .ok (.iload_n 3, 1) := by decide +kernel
theorem dX9_unseen_89 : decode cX9_unseen 89 = .ok (.ifCond .eq 9, 3) := by decide +kernel
theorem dX9_unseen_92 : decode cX9_unseen 92 = .ok (.iconst 1, 1) := by decide +kernel
theorem dX9_unseen_93 : decode cX9_unseen 93 = .ok (.iload_n 2, 1) := by decide +kernel
theorem dX9_unseen_94 : decode cX9_unseen 94 = .ok (.ishl, 1) := by decide +kernel
theorem dX9_unseen_95 : decode cX9_unseen 95 = .ok (.goto 4, 3) := by decide +kernel
theorem dX9_unseen_98 : decode cX9_unseen 98 = .ok (.iconst 0, 1) := by decide +kernel
theorem dX9_unseen_99 : decode cX9_unseen 99 = .ok (.ior, 1) := by decide +kernel
theorem dX9_unseen_100 : decode cX9_unseen 100 = .ok (.istore_n 1, 1) := by decide +kernel
theorem dX9_unseen_101 : decode cX9_unseen 101 = .ok (.iinc 2 1, 3) := by decide +kernel
theorem dX9_unseen_104 : decode cX9_unseen 104 = .ok (.goto (-95), 3) := by decide +kernel
theorem dX9_unseen_107 : decode cX9_unseen 107 = .ok (.iload_n 1, 1) := by decide +kernel
theorem dX9_unseen_108 : decode cX9_unseen 108 = .ok (.ireturn, 1) := by decide +kernel
theorem dX9_keep_0 : decode cX9_keep 0 = .ok (.aload_n 0, 1) := by decide +kernel
theorem dX9_keep_1 : decode cX9_keep 1 = .ok (.iconst 0, 1) := by decide +kernel
theorem dX9_keep_2 : decode cX9_keep 2 = .ok (.putfield 63, 3) := by decide +kernel
theorem dX9_keep_5 : decode cX9_keep 5 = .ok (.iload_n 1, 1) := by decide +kernel
theorem dX9_keep_6 : decode cX9_keep 6 = .ok (.iconst 0, 1) := by decide +kernel
theorem dX9_keep_7 : decode cX9_keep 7 = .ok (.iconst 1, 1) := by decide +kernel
theorem dX9_keep_8 : decode cX9_keep 8 = .ok (.invokestatic 66, 3) := by decide +kernel
theorem dX9_keep_11 : decode cX9_keep 11 = .ok (.ifCond .ne 5, 3) := by decide +kernel
theorem dX9_keep_14 : decode cX9_keep 14 = .ok (.iconst (-1), 1) := by decide +kernel
theorem dX9_keep_15 : decode cX9_keep 15 = .ok (.ireturn, 1) := by decide +kernel
theorem dX9_keep_16 : decode cX9_keep 16 = .ok (.iconst 0, 1) := by decide +kernel
theorem dX9_keep_17 : decode cX9_keep 17 = .ok (.istore_n 2, 1) := by decide +kernel
theorem dX9_keep_18 : decode cX9_keep 18 = .ok (.iload_n 2, 1) := by decide +kernel
theorem dX9_keep_19 : decode cX9_keep 19 = .ok (.bipush 74, 2) := by decide +kernel
theorem dX9_keep_21 : decode cX9_keep 21 = .ok (.if_icmp .ge 26, 3) := by decide +kernel
theorem dX9_keep_24 : decode cX9_keep 24 = .ok (.aload_n 0, 1) := by decide +kernel
theorem dX9_keep_25 : decode cX9_keep 25 = .ok (.getfield 19, 3) := by decide +kernel
theorem dX9_keep_28 : decode cX9_keep 28 = .ok (.bipush 74, 2) := by decide +kernel
theorem dX9_keep_30 : decode cX9_keep 30 = .ok (.iload_n 1, 1) := by decide +kernel
theorem dX9_keep_31 : decode cX9_keep 31 = .ok (.imul, 1) := by decide +kernel
theorem dX9_keep_32 : decode cX9_keep 32 = .ok (.iload_n 2, 1) := by decide +kernel
theorem dX9_keep_33 : decode cX9_keep 33 = .ok (.iadd, 1) := by decide +kernel
theorem dX9_keep_34 : decode cX9_keep 34 = .ok (.aload_n 0, 1) := by decide +kernel
theorem dX9_keep_35 : decode cX9_keep 35 = .ok (.getfield 7, 3) := by decide +kernel
theorem dX9_keep_38 : decode cX9_keep 38 = .ok (.iload_n 2, 1) := by decide +kernel
theorem dX9_keep_39 : decode cX9_keep 39 = .ok (.iaload, 1) := by decide +kernel
theorem dX9_keep_40 : decode cX9_keep 40 = .ok (.iastore, 1) := by decide +kernel
theorem dX9_keep_41 : decode cX9_keep 41 = .ok (.iinc 2 1, 3) := by decide +kernel
theorem dX9_keep_44 : decode cX9_keep 44 = .ok (.goto (-26), 3) := by decide +kernel
theorem dX9_keep_47 : decode cX9_keep 47 = .ok (.aload_n 0, 1) := by decide +kernel
theorem dX9_keep_48 : decode cX9_keep 48 = .ok (.getfield 22, 3) := by decide +kernel
theorem dX9_keep_51 : decode cX9_keep 51 = .ok (.iload_n 1, 1) := by decide +kernel
theorem dX9_keep_52 : decode cX9_keep 52 = .ok (.iconst 1, 1) := by decide +kernel
theorem dX9_keep_53 : decode cX9_keep 53 = .ok (.bastore, 1) := by decide +kernel
theorem dX9_keep_54 : decode cX9_keep 54 = .ok (.aload_n 0, 1) := by decide +kernel
theorem dX9_keep_55 : decode cX9_keep 55 = .ok (.getfield 7, 3) := by decide +kernel
theorem dX9_keep_58 : decode cX9_keep 58 = .ok (.iconst 1, 1) := by decide +kernel
theorem dX9_keep_59 : decode cX9_keep 59 = .ok (.iaload, 1) := by decide +kernel
theorem dX9_keep_60 : decode cX9_keep 60 = .ok (.ireturn, 1) := by decide +kernel
theorem dX9_back_0 : decode cX9_back 0 = .ok (.aload_n 0, 1) := by decide +kernel
theorem dX9_back_1 : decode cX9_back 1 = .ok (.iconst 0, 1) := by decide +kernel
theorem dX9_back_2 : decode cX9_back 2 = .ok (.putfield 63, 3) := by decide +kernel
theorem dX9_back_5 : decode cX9_back 5 = .ok (.iload_n 1, 1) := by decide +kernel
theorem dX9_back_6 : decode cX9_back 6 = .ok (.iconst 0, 1) := by decide +kernel
theorem dX9_back_7 : decode cX9_back 7 = .ok (.iconst 1, 1) := by decide +kernel
theorem dX9_back_8 : decode cX9_back 8 = .ok (.invokestatic 66, 3) := by decide +kernel
theorem dX9_back_11 : decode cX9_back 11 = .ok (.ifCond .ne 5, 3) := by decide +kernel
theorem dX9_back_14 : decode cX9_back 14 = .ok (.iconst (-1), 1) := by decide +kernel
theorem dX9_back_15 : decode cX9_back 15 = .ok (.ireturn, 1) := by decide +kernel
theorem dX9_back_16 : decode cX9_back 16 = .ok (.aload_n 0, 1) := by decide +kernel
theorem dX9_back_17 : decode cX9_back 17 = .ok (.getfield 22, 3) := by decide +kernel
theorem dX9_back_20 : decode cX9_back 20 = .ok (.iload_n 1, 1) := by decide +kernel
theorem dX9_back_21 : decode cX9_back 21 = .ok (.baload, 1) := by decide +kernel
theorem dX9_back_22 : decode cX9_back 22 = .ok (.ifCond .ne 6, 3) := by decide +kernel
theorem dX9_back_25 : decode cX9_back 25 = .ok (.bipush (-2), 2) := by decide +kernel
theorem dX9_back_27 : decode cX9_back 27 = .ok (.ireturn, 1) := by decide +kernel
theorem dX9_back_28 : decode cX9_back 28 = .ok (.iconst 0, 1) := by decide +kernel
theorem dX9_back_29 : decode cX9_back 29 = .ok (.istore_n 2, 1) := by decide +kernel
theorem dX9_back_30 : decode cX9_back 30 = .ok (.iload_n 2, 1) := by decide +kernel
theorem dX9_back_31 : decode cX9_back 31 = .ok (.bipush 74, 2) := by decide +kernel
theorem dX9_back_33 : decode cX9_back 33 = .ok (.if_icmp .ge 26, 3) := by decide +kernel
theorem dX9_back_36 : decode cX9_back 36 = .ok (.aload_n 0, 1) := by decide +kernel
theorem dX9_back_37 : decode cX9_back 37 = .ok (.getfield 7, 3) := by decide +kernel
theorem dX9_back_40 : decode cX9_back 40 = .ok (.iload_n 2, 1) := by decide +kernel
theorem dX9_back_41 : decode cX9_back 41 = .ok (.aload_n 0, 1) := by decide +kernel
theorem dX9_back_42 : decode cX9_back 42 = .ok (.getfield 19, 3) := by decide +kernel
theorem dX9_back_45 : decode cX9_back 45 = .ok (.bipush 74, 2) := by decide +kernel
theorem dX9_back_47 : decode cX9_back 47 = .ok (.iload_n 1, 1) := by decide +kernel
theorem dX9_back_48 : decode cX9_back 48 = .ok (.imul, 1) := by decide +kernel
theorem dX9_back_49 : decode cX9_back 49 = .ok (.iload_n 2, 1) := by decide +kernel
theorem dX9_back_50 : decode cX9_back 50 = .ok (.iadd, 1) := by decide +kernel
theorem dX9_back_51 : decode cX9_back 51 = .ok (.iaload, 1) := by decide +kernel
theorem dX9_back_52 : decode cX9_back 52 = .ok (.iastore, 1) := by decide +kernel
theorem dX9_back_53 : decode cX9_back 53 = .ok (.iinc 2 1, 3) := by decide +kernel
theorem dX9_back_56 : decode cX9_back 56 = .ok (.goto (-26), 3) := by decide +kernel
theorem dX9_back_59 : decode cX9_back 59 = .ok (.aload_n 0, 1) := by decide +kernel
theorem dX9_back_60 : decode cX9_back 60 = .ok (.iconst 0, 1) := by decide +kernel
theorem dX9_back_61 : decode cX9_back 61 = .ok (.putfield 105, 3) := by decide +kernel
theorem dX9_back_64 : decode cX9_back 64 = .ok (.aload_n 0, 1) := by decide +kernel
theorem dX9_back_65 : decode cX9_back 65 = .ok (.getfield 7, 3) := by decide +kernel
theorem dX9_back_68 : decode cX9_back 68 = .ok (.iconst 1, 1) := by decide +kernel
theorem dX9_back_69 : decode cX9_back 69 = .ok (.iaload, 1) := by decide +kernel
theorem dX9_back_70 : decode cX9_back 70 = .ok (.ireturn, 1) := by decide +kernel
theorem dX9_count_0 : decode cX9_count 0 = .ok (.aload_n 0, 1) := by decide +kernel
theorem dX9_count_1 : decode cX9_count 1 = .ok (.iconst 0, 1) := by decide +kernel
theorem dX9_count_2 : decode cX9_count 2 = .ok (.putfield 63, 3) := by decide +kernel
theorem dX9_count_5 : decode cX9_count 5 = .ok (.iload_n 1, 1) := by decide +kernel
theorem dX9_count_6 : decode cX9_count 6 = .ok (.tableswitch 72 0 5 #[38, 45, 50, 57, 62, 67], 38) := by decide +kernel
theorem dX9_count_44 : decode cX9_count 44 = .ok (.aload_n 0, 1) := by decide +kernel
theorem dX9_count_45 : decode cX9_count 45 = .ok (.getfield 7, 3) := by decide +kernel
theorem dX9_count_48 : decode cX9_count 48 = .ok (.iconst 0, 1) := by decide +kernel
theorem dX9_count_49 : decode cX9_count 49 = .ok (.iaload, 1) := by decide +kernel
theorem dX9_count_50 : decode cX9_count 50 = .ok (.ireturn, 1) := by decide +kernel
theorem dX9_count_51 : decode cX9_count 51 = .ok (.aload_n 0, 1) := by decide +kernel
theorem dX9_count_52 : decode cX9_count 52 = .ok (.invokevirtual 174, 3) := by decide +kernel
theorem dX9_count_55 : decode cX9_count 55 = .ok (.ireturn, 1) := by decide +kernel
theorem dX9_count_56 : decode cX9_count 56 = .ok (.aload_n 0, 1) := by decide +kernel
theorem dX9_count_57 : decode cX9_count 57 = .ok (.getfield 7, 3) := by decide +kernel
theorem dX9_count_60 : decode cX9_count 60 = .ok (.iconst 1, 1) := by decide +kernel
theorem dX9_count_61 : decode cX9_count 61 = .ok (.iaload, 1) := by decide +kernel
theorem dX9_count_62 : decode cX9_count 62 = .ok (.ireturn, 1) := by decide +kernel
theorem dX9_count_63 : decode cX9_count 63 = .ok (.aload_n 0, 1) := by decide +kernel
theorem dX9_count_64 : decode cX9_count 64 = .ok (.getfield 59, 3) := by decide +kernel
theorem dX9_count_67 : decode cX9_count 67 = .ok (.ireturn, 1) := by decide +kernel
theorem dX9_count_68 : decode cX9_count 68 = .ok (.aload_n 0, 1) := by decide +kernel
theorem dX9_count_69 : decode cX9_count 69 = .ok (.getfield 74, 3) := by decide +kernel
theorem dX9_count_72 : decode cX9_count 72 = .ok (.ireturn, 1) := by decide +kernel
theorem dX9_count_73 : decode cX9_count 73 = .ok (.aload_n 0, 1) := by decide +kernel
theorem dX9_count_74 : decode cX9_count 74 = .ok (.getfield 105, 3) := by decide +kernel
theorem dX9_count_77 : decode cX9_count 77 = .ok (.ireturn, 1) := by decide +kernel
theorem dX9_count_78 : decode cX9_count 78 = .ok (.iconst (-1), 1) := by decide +kernel
theorem dX9_count_79 : decode cX9_count 79 = .ok (.ireturn, 1) := by decide +kernel
