theorem dX8_init_0 : decode cX8_init 0 = .ok (.aload_n 0, 1) := by decide +kernel
theorem dX8_init_1 : decode cX8_init 1 = .ok (.invokespecial 3, 3) := by decide +kernel
theorem dX8_init_4 : decode cX8_init 4 = .ok (.aload_n 0, 1) := by decide +kernel
theorem dX8_init_5 : decode cX8_init 5 = .ok (.new 9, 3) := by decide +kernel
theorem dX8_init_8 : decode cX8_init 8 = .ok (.dup, 1) := by decide +kernel
theorem dX8_init_9 : decode cX8_init 9 = .ok (.invokespecial 11, 3) := by decide +kernel
theorem dX8_init_12 : decode cX8_init 12 = .ok (.putfield 12, 3) := by decide +kernel
theorem dX8_init_15 : decode cX8_init 15 = .ok (.aload_n 0, 1) := by decide +kernel
theorem dX8_init_16 : decode cX8_init 16 = .ok (.new 9, 3) := by decide +kernel
theorem dX8_init_19 : decode cX8_init 19 = .ok (.dup, 1) := by decide +kernel
theorem dX8_init_20 : decode cX8_init 20 = .ok (.invokespecial 11, 3) := by decide +kernel
theorem dX8_init_23 : decode cX8_init 23 = .ok (.putfield 16, 3) := by decide +kernel
theorem dX8_init_26 : decode cX8_init 26 = .ok (.aload_n 0, 1) := by decide +kernel
theorem dX8_init_27 : decode cX8_init 27 = .ok (.new 19, 3) := by decide +kernel
theorem dX8_init_30 : decode cX8_init 30 = .ok (.dup, 1) := by decide +kernel
theorem dX8_init_31 : decode cX8_init 31 = .ok (.invokespecial 21, 3) := by decide +kernel
theorem dX8_init_34 : decode cX8_init 34 = .ok (.putfield 22, 3) := by decide +kernel
theorem dX8_init_37 : decode cX8_init 37 = .ok (.aload_n 0, 1) := by decide +kernel
theorem dX8_init_38 : decode cX8_init 38 = .ok (.new 26, 3) := by decide +kernel
theorem dX8_init_41 : decode cX8_init 41 = .ok (.dup, 1) := by decide +kernel
theorem dX8_init_42 : decode cX8_init 42 = .ok (.invokespecial 28, 3) := by decide +kernel
theorem dX8_init_45 : decode cX8_init 45 = .ok (.putfield 29, 3) := by decide +kernel
theorem dX8_init_48 : decode cX8_init 48 = .ok (.aload_n 0, 1) := by decide +kernel
theorem dX8_init_49 : decode cX8_init 49 = .ok (.new 33, 3) := by decide +kernel
theorem dX8_init_52 : decode cX8_init 52 = .ok (.dup, 1) := by decide +kernel
theorem dX8_init_53 : decode cX8_init 53 = .ok (.invokespecial 35, 3) := by decide +kernel
theorem dX8_init_56 : decode cX8_init 56 = .ok (.putfield 36, 3) := by decide +kernel
theorem dX8_init_59 : decode cX8_init 59 = .ok (.aload_n 0, 1) := by decide +kernel
theorem dX8_init_60 : decode cX8_init 60 = .ok (.new 40, 3) := by decide +kernel
theorem dX8_init_63 : decode cX8_init 63 = .ok (.dup, 1) := by decide +kernel
theorem dX8_init_64 : decode cX8_init 64 = .ok (.invokespecial 42, 3) := by decide +kernel
theorem dX8_init_67 : decode cX8_init 67 = .ok (.putfield 43, 3) := by decide +kernel
theorem dX8_init_70 : decode cX8_init 70 = .ok (.aload_n 0, 1) := by decide +kernel
theorem dX8_init_71 : decode cX8_init 71 = .ok (.new 47, 3) := by decide +kernel
theorem dX8_init_74 : decode cX8_init 74 = .ok (.dup, 1) := by decide +kernel
theorem dX8_init_75 : decode cX8_init 75 = .ok (.invokespecial 49, 3) := by decide +kernel
theorem dX8_init_78 : decode cX8_init 78 = .ok (.putfield 50, 3) := by decide +kernel
theorem dX8_init_81 : decode cX8_init 81 = .ok (.aload_n 0, 1) := by decide +kernel
theorem dX8_init_82 : decode cX8_init 82 = .ok (.new 54, 3) := by decide +kernel
theorem dX8_init_85 : decode cX8_init 85 = .ok (.dup, 1) := by decide +kernel
theorem dX8_init_86 : decode cX8_init 86 = .ok (.invokespecial 56, 3) := by decide +kernel
theorem dX8_init_89 : decode cX8_init 89 = .ok (.putfield 57, 3) := by decide +kernel
theorem dX8_init_92 : decode cX8_init 92 = .ok (.aload_n 0, 1) := by decide +kernel
theorem dX8_init_93 : decode cX8_init 93 = .ok (.new 61, 3) := by decide +kernel
theorem dX8_init_96 : decode cX8_init 96 = .ok (.dup, 1) := by decide +kernel
theorem dX8_init_97 : decode cX8_init 97 = .ok (.invokespecial 63, 3) := by decide +kernel
theorem dX8_init_100 : decode cX8_init 100 = .ok (.putfield 64, 3) := by decide +kernel
theorem dX8_init_103 : decode cX8_init 103 = .ok (.return_, 1) := by decide +kernel
theorem dX8_type_0 : decode cX8_type 0 = .ok (.iload_n 1, 1) := by decide +kernel
theorem dX8_type_1 : decode cX8_type 1 = .ok (.ifCond .lt 10, 3) := by decide +kernel
theorem dX8_type_4 : decode cX8_type 4 = .ok (.iload_n 1, 1) := by decide +kernel
theorem dX8_type_5 : decode cX8_type 5 = .ok (.sipush 255, 3) := by decide +kernel
theorem dX8_type_8 : decode cX8_type 8 = .ok (.if_icmp .le 5, 3) := by decide +kernel
theorem dX8_type_11 : decode cX8_type 11 = .ok (.iconst (-1), 1) := by decide +kernel
theorem dX8_type_12 : decode cX8_type 12 = .ok (.ireturn, 1) := by decide +kernel
theorem dX8_type_13 : decode cX8_type 13 = .ok (.aload_n 0, 1) := by decide +kernel
theorem dX8_type_14 : decode cX8_type 14 = .ok (.getfield 22, 3) := by decide +kernel
theorem dX8_type_17 : decode cX8_type 17 = .ok (.iload_n 1, 1) := by decide +kernel
theorem dX8_type_18 : decode cX8_type 18 = .ok (.invokevirtual 68, 3) := by decide +kernel
theorem dX8_type_21 : decode cX8_type 21 = .ok (.ifCond .eq 13, 3) := by decide +kernel
theorem dX8_type_24 : decode cX8_type 24 = .ok (.aload_n 0, 1) := by decide +kernel
theorem dX8_type_25 : decode cX8_type 25 = .ok (.getfield 22, 3) := by decide +kernel
theorem dX8_type_28 : decode cX8_type 28 = .ok (.invokevirtual 72, 3) := by decide +kernel
theorem dX8_type_31 : decode cX8_type 31 = .ok (.goto 5, 3) := by decide +kernel
theorem dX8_type_34 : decode cX8_type 34 = .ok (.bipush (-3), 2) := by decide +kernel
theorem dX8_type_36 : decode cX8_type 36 = .ok (.ireturn, 1) := by decide +kernel
theorem dX8_clear_0 : decode cX8_clear 0 = .ok (.aload_n 0, 1) := by decide +kernel
theorem dX8_clear_1 : decode cX8_clear 1 = .ok (.getfield 22, 3) := by decide +kernel
theorem dX8_clear_4 : decode cX8_clear 4 = .ok (.invokevirtual 72, 3) := by decide +kernel
theorem dX8_clear_7 : decode cX8_clear 7 = .ok (.istore_n 1, 1) := by decide +kernel
theorem dX8_clear_8 : decode cX8_clear 8 = .ok (.aload_n 0, 1) := by decide +kernel
theorem dX8_clear_9 : decode cX8_clear 9 = .ok (.getfield 22, 3) := by decide +kernel
theorem dX8_clear_12 : decode cX8_clear 12 = .ok (.invokevirtual 76, 3) := by decide +kernel
theorem dX8_clear_15 : decode cX8_clear 15 = .ok (.iload_n 1, 1) := by decide +kernel
theorem dX8_clear_16 : decode cX8_clear 16 = .ok (.ireturn, 1) := by decide +kernel
theorem dX8_reads_0 : decode cX8_reads 0 = .ok (.aload_n 0, 1) := by decide +kernel
theorem dX8_reads_1 : decode cX8_reads 1 = .ok (.getfield 22, 3) := by decide +kernel
theorem dX8_reads_4 : decode cX8_reads 4 = .ok (.aload_n 0, 1) := by decide +kernel
theorem dX8_reads_5 : decode cX8_reads 5 = .ok (.getfield 16, 3) := by decide +kernel
theorem dX8_reads_8 : decode cX8_reads 8 = .ok (.invokevirtual 79, 3) := by decide +kernel
theorem dX8_reads_11 : decode cX8_reads 11 = .ok (.istore_n 1, 1) := by decide +kernel
theorem dX8_reads_12 : decode cX8_reads 12 = .ok (.iload_n 1, 1) := by decide +kernel
theorem dX8_reads_13 : decode cX8_reads 13 = .ok (.bipush (-9), 2) := by decide +kernel
theorem dX8_reads_15 : decode cX8_reads 15 = .ok (.if_icmp .eq 8, 3) := by decide +kernel
theorem dX8_reads_18 : decode cX8_reads 18 = .ok (.bipush (-10), 2) := by decide +kernel
theorem dX8_reads_20 : decode cX8_reads 20 = .ok (.iload_n 1, 1) := by decide +kernel
theorem dX8_reads_21 : decode cX8_reads 21 = .ok (.isub, 1) := by decide +kernel
theorem dX8_reads_22 : decode cX8_reads 22 = .ok (.ireturn, 1) := by decide +kernel
theorem dX8_reads_23 : decode cX8_reads 23 = .ok (.aload_n 0, 1) := by decide +kernel
theorem dX8_reads_24 : decode cX8_reads 24 = .ok (.getfield 12, 3) := by decide +kernel
theorem dX8_reads_27 : decode cX8_reads 27 = .ok (.aload_n 0, 1) := by decide +kernel
theorem dX8_reads_28 : decode cX8_reads 28 = .ok (.getfield 16, 3) := by decide +kernel
theorem dX8_reads_31 : decode cX8_reads 31 = .ok (.invokevirtual 83, 3) := by decide +kernel
theorem dX8_reads_34 : decode cX8_reads 34 = .ok (.aload_n 0, 1) := by decide +kernel
theorem dX8_reads_35 : decode cX8_reads 35 = .ok (.getfield 22, 3) := by decide +kernel
theorem dX8_reads_38 : decode cX8_reads 38 = .ok (.invokevirtual 76, 3) := by decide +kernel
theorem dX8_reads_41 : decode cX8_reads 41 = .ok (.aload_n 0, 1) := by decide +kernel
theorem dX8_reads_42 : decode cX8_reads 42 = .ok (.getfield 43, 3) := by decide +kernel
theorem dX8_reads_45 : decode cX8_reads 45 = .ok (.invokevirtual 87, 3) := by decide +kernel
theorem dX8_reads_48 : decode cX8_reads 48 = .ok (.aload_n 0, 1) := by decide +kernel
theorem dX8_reads_49 : decode cX8_reads 49 = .ok (.getfield 29, 3) := by decide +kernel
theorem dX8_reads_52 : decode cX8_reads 52 = .ok (.invokevirtual 88, 3) := by decide +kernel
theorem dX8_reads_55 : decode cX8_reads 55 = .ok (.aload_n 0, 1) := by decide +kernel
theorem dX8_reads_56 : decode cX8_reads 56 = .ok (.getfield 36, 3) := by decide +kernel
theorem dX8_reads_59 : decode cX8_reads 59 = .ok (.invokevirtual 91, 3) := by decide +kernel
theorem dX8_reads_62 : decode cX8_reads 62 = .ok (.aload_n 0, 1) := by decide +kernel
theorem dX8_reads_63 : decode cX8_reads 63 = .ok (.getfield 12, 3) := by decide +kernel
theorem dX8_reads_66 : decode cX8_reads 66 = .ok (.invokevirtual 92, 3) := by decide +kernel
theorem dX8_reads_69 : decode cX8_reads 69 = .ok (.ireturn, 1) := by decide +kernel
theorem dX8_clause_0 : decode cX8_clause 0 = .ok (.aload_n 0, 1) := by decide +kernel
theorem dX8_clause_1 : decode cX8_clause 1 = .ok (.iload_n 1, 1) := by decide +kernel
theorem dX8_clause_2 : decode cX8_clause 2 = .ok (.invokevirtual 95, 3) := by decide +kernel
theorem dX8_clause_5 : decode cX8_clause 5 = .ok (.ifCond .eq 12, 3) := by decide +kernel
theorem dX8_clause_8 : decode cX8_clause 8 = .ok (.iload_n 2, 1) := by decide +kernel
theorem dX8_clause_9 : decode cX8_clause 9 = .ok (.ifCond .lt 8, 3) := by decide +kernel
theorem dX8_clause_12 : decode cX8_clause 12 = .ok (.iload_n 2, 1) := by decide +kernel
theorem dX8_clause_13 : decode cX8_clause 13 = .ok (.iconst 2, 1) := by decide +kernel
theorem dX8_clause_14 : decode cX8_clause 14 = .ok (.if_icmp .le 5, 3) := by decide +kernel
theorem dX8_clause_17 : decode cX8_clause 17 = .ok (.iconst (-1), 1) := by decide +kernel
theorem dX8_clause_18 : decode cX8_clause 18 = .ok (.ireturn, 1) := by decide +kernel
theorem dX8_clause_19 : decode cX8_clause 19 = .ok (.iload_n 2, 1) := by decide +kernel
theorem dX8_clause_20 : decode cX8_clause 20 = .ok (.ifCond .ne 12, 3) := by decide +kernel
theorem dX8_clause_23 : decode cX8_clause 23 = .ok (.aload_n 0, 1) := by decide +kernel
theorem dX8_clause_24 : decode cX8_clause 24 = .ok (.getfield 12, 3) := by decide +kernel
theorem dX8_clause_27 : decode cX8_clause 27 = .ok (.iload_n 1, 1) := by decide +kernel
theorem dX8_clause_28 : decode cX8_clause 28 = .ok (.invokevirtual 98, 3) := by decide +kernel
theorem dX8_clause_31 : decode cX8_clause 31 = .ok (.ireturn, 1) := by decide +kernel
theorem dX8_clause_32 : decode cX8_clause 32 = .ok (.iload_n 2, 1) := by decide +kernel
theorem dX8_clause_33 : decode cX8_clause 33 = .ok (.iconst 1, 1) := by decide +kernel
theorem dX8_clause_34 : decode cX8_clause 34 = .ok (.if_icmp .ne 14, 3) := by decide +kernel
theorem dX8_clause_37 : decode cX8_clause 37 = .ok (.aload_n 0, 1) := by decide +kernel
theorem dX8_clause_38 : decode cX8_clause 38 = .ok (.getfield 12, 3) := by decide +kernel
theorem dX8_clause_41 : decode cX8_clause 41 = .ok (.iload_n 1, 1) := by decide +kernel
theorem dX8_clause_42 : decode cX8_clause 42 = .ok (.invokevirtual 102, 3) := by decide +kernel
theorem dX8_clause_45 : decode cX8_clause 45 = .ok (.goto 11, 3) := by decide +kernel
theorem dX8_clause_48 : decode cX8_clause 48 = .ok (.aload_n 0, 1) := by decide +kernel
theorem dX8_clause_49 : decode cX8_clause 49 = .ok (.getfield 12, 3) := by decide +kernel
theorem dX8_clause_52 : decode cX8_clause 52 = .ok (.iload_n 1, 1) := by decide +kernel
theorem dX8_clause_53 : decode cX8_clause 53 = .ok (.invokevirtual 105, 3) := by decide +kernel
theorem dX8_clause_56 : decode cX8_clause 56 = .ok (.ireturn, 1) := by decide +kernel
theorem dX8_statement_0 : decode cX8_statement 0 = .ok (.aload_n 0, 1) := by decide +kernel
theorem dX8_statement_1 : decode cX8_statement 1 = .ok (.iload_n 1, 1) := by decide +kernel
theorem dX8_statement_2 : decode cX8_statement 2 = .ok (.invokevirtual 108, 3) := by decide +kernel
theorem dX8_statement_5 : decode cX8_statement 5 = .ok (.ifCond .eq 12, 3) := by decide +kernel
theorem dX8_statement_8 : decode cX8_statement 8 = .ok (.iload_n 2, 1) := by decide +kernel
theorem dX8_statement_9 : decode cX8_statement 9 = .ok (.ifCond .lt 8, 3) := by decide +kernel
theorem dX8_statement_12 : decode cX8_statement 12 = .ok (.iload_n 2, 1) := by decide +kernel
theorem dX8_statement_13 : decode cX8_statement 13 = .ok (.iconst 3, 1) := by decide +kernel
theorem dX8_statement_14 : decode cX8_statement 14 = .ok (.if_icmp .le 5, 3) := by decide +kernel
theorem dX8_statement_17 : decode cX8_statement 17 = .ok (.iconst (-1), 1) := by decide +kernel
theorem dX8_statement_18 : decode cX8_statement 18 = .ok (.ireturn, 1) := by decide +kernel
theorem dX8_statement_19 : decode cX8_statement 19 = .ok (.iload_n 2, 1) := by decide +kernel
theorem dX8_statement_20 : decode cX8_statement 20 = .ok (.tableswitch 55 0 2 #[28, 37, 46], 28) := by decide +kernel
theorem dX8_statement_48 : decode cX8_statement 48 = .ok (.aload_n 0, 1) := by decide +kernel
theorem dX8_statement_49 : decode cX8_statement 49 = .ok (.getfield 12, 3) := by decide +kernel
theorem dX8_statement_52 : decode cX8_statement 52 = .ok (.iload_n 1, 1) := by decide +kernel
theorem dX8_statement_53 : decode cX8_statement 53 = .ok (.invokevirtual 111, 3) := by decide +kernel
theorem dX8_statement_56 : decode cX8_statement 56 = .ok (.ireturn, 1) := by decide +kernel
theorem dX8_statement_57 : decode cX8_statement 57 = .ok (.aload_n 0, 1) := by decide +kernel
theorem dX8_statement_58 : decode cX8_statement 58 = .ok (.getfield 12, 3) := by decide +kernel
theorem dX8_statement_61 : decode cX8_statement 61 = .ok (.iload_n 1, 1) := by decide +kernel
theorem dX8_statement_62 : decode cX8_statement 62 = .ok (.invokevirtual 114, 3) := by decide +kernel
theorem dX8_statement_65 : decode cX8_statement 65 = .ok (.ireturn, 1) := by decide +kernel
theorem dX8_statement_66 : decode cX8_statement 66 = .ok (.aload_n 0, 1) := by decide +kernel
theorem dX8_statement_67 : decode cX8_statement 67 = .ok (.getfield 12, 3) := by decide +kernel
theorem dX8_statement_70 : decode cX8_statement 70 = .ok (.iload_n 1, 1) := by decide +kernel
theorem dX8_statement_71 : decode cX8_statement 71 = .ok (.invokevirtual 117, 3) := by decide +kernel
theorem dX8_statement_74 : decode cX8_statement 74 = .ok (.ireturn, 1) := by decide +kernel
theorem dX8_statement_75 : decode cX8_statement 75 = .ok (.aload_n 0, 1) := by decide +kernel
theorem dX8_statement_76 : decode cX8_statement 76 = .ok (.getfield 12, 3) := by decide +kernel
theorem dX8_statement_79 : decode cX8_statement 79 = .ok (.iload_n 1, 1) := by decide +kernel
theorem dX8_statement_80 : decode cX8_statement 80 = .ok (.invokevirtual 120, 3) := by decide +kernel
theorem dX8_statement_83 : decode cX8_statement 83 = .ok (.ireturn, 1) := by decide +kernel
theorem dX8_says_0 : decode cX8_says 0 = .ok (.aload_n 0, 1) := by decide +kernel
theorem dX8_says_1 : decode cX8_says 1 = .ok (.iload_n 1, 1) := by decide +kernel
theorem dX8_says_2 : decode cX8_says 2 = .ok (.iload_n 2, 1) := by decide +kernel
theorem dX8_says_3 : decode cX8_says 3 = .ok (.iload_n 3, 1) := by decide +kernel
theorem dX8_says_4 : decode cX8_says 4 = .ok (.invokevirtual 123, 3) := by decide +kernel
theorem dX8_says_7 : decode cX8_says 7 = .ok (.ifCond .ne 5, 3) := by decide +kernel
theorem dX8_says_10 : decode cX8_says 10 = .ok (.iconst (-1), 1) := by decide +kernel
theorem dX8_says_11 : decode cX8_says 11 = .ok (.ireturn, 1) := by decide +kernel
theorem dX8_says_12 : decode cX8_says 12 = .ok (.aload_n 0, 1) := by decide +kernel
theorem dX8_says_13 : decode cX8_says 13 = .ok (.getfield 12, 3) := by decide +kernel
theorem dX8_says_16 : decode cX8_says 16 = .ok (.invokevirtual 127, 3) := by decide +kernel
theorem dX8_says_19 : decode cX8_says 19 = .ok (.bipush 6, 2) := by decide +kernel
theorem dX8_says_21 : decode cX8_says 21 = .ok (.if_icmp .lt 6, 3) := by decide +kernel
theorem dX8_says_24 : decode cX8_says 24 = .ok (.bipush (-3), 2) := by decide +kernel
theorem dX8_says_26 : decode cX8_says 26 = .ok (.ireturn, 1) := by decide +kernel
theorem dX8_says_27 : decode cX8_says 27 = .ok (.aload_n 0, 1) := by decide +kernel
theorem dX8_says_28 : decode cX8_says 28 = .ok (.getfield 29, 3) := by decide +kernel
theorem dX8_says_31 : decode cX8_says 31 = .ok (.aload_n 0, 1) := by decide +kernel
theorem dX8_says_32 : decode cX8_says 32 = .ok (.getfield 12, 3) := by decide +kernel
theorem dX8_says_35 : decode cX8_says 35 = .ok (.invokevirtual 130, 3) := by decide +kernel
theorem dX8_says_38 : decode cX8_says 38 = .ok (.aload_n 0, 1) := by decide +kernel
theorem dX8_says_39 : decode cX8_says 39 = .ok (.getfield 12, 3) := by decide +kernel
theorem dX8_says_42 : decode cX8_says 42 = .ok (.iload_n 1, 1) := by decide +kernel
theorem dX8_says_43 : decode cX8_says 43 = .ok (.iload_n 2, 1) := by decide +kernel
theorem dX8_says_44 : decode cX8_says 44 = .ok (.iload_n 3, 1) := by decide +kernel
theorem dX8_says_45 : decode cX8_says 45 = .ok (.invokevirtual 133, 3) := by decide +kernel
theorem dX8_says_48 : decode cX8_says 48 = .ok (.aload_n 0, 1) := by decide +kernel
theorem dX8_says_49 : decode cX8_says 49 = .ok (.getfield 12, 3) := by decide +kernel
theorem dX8_says_52 : decode cX8_says 52 = .ok (.invokevirtual 92, 3) := by decide +kernel
theorem dX8_says_55 : decode cX8_says 55 = .ok (.ireturn, 1) := by decide +kernel
theorem dX8_takes_0 : decode cX8_takes 0 = .ok (.aload_n 0, 1) := by decide +kernel
theorem dX8_takes_1 : decode cX8_takes 1 = .ok (.iload_n 1, 1) := by decide +kernel
theorem dX8_takes_2 : decode cX8_takes 2 = .ok (.invokevirtual 108, 3) := by decide +kernel
theorem dX8_takes_5 : decode cX8_takes 5 = .ok (.ifCond .eq 16, 3) := by decide +kernel
theorem dX8_takes_8 : decode cX8_takes 8 = .ok (.aload_n 0, 1) := by decide +kernel
theorem dX8_takes_9 : decode cX8_takes 9 = .ok (.getfield 12, 3) := by decide +kernel
theorem dX8_takes_12 : decode cX8_takes 12 = .ok (.iload_n 1, 1) := by decide +kernel
theorem dX8_takes_13 : decode cX8_takes 13 = .ok (.invokevirtual 111, 3) := by decide +kernel
theorem dX8_takes_16 : decode cX8_takes 16 = .ok (.bipush (-9), 2) := by decide +kernel
theorem dX8_takes_18 : decode cX8_takes 18 = .ok (.if_icmp .eq 5, 3) := by decide +kernel
theorem dX8_takes_21 : decode cX8_takes 21 = .ok (.iconst (-1), 1) := by decide +kernel
theorem dX8_takes_22 : decode cX8_takes 22 = .ok (.ireturn, 1) := by decide +kernel
theorem dX8_takes_23 : decode cX8_takes 23 = .ok (.aload_n 0, 1) := by decide +kernel
theorem dX8_takes_24 : decode cX8_takes 24 = .ok (.getfield 29, 3) := by decide +kernel
theorem dX8_takes_27 : decode cX8_takes 27 = .ok (.aload_n 0, 1) := by decide +kernel
theorem dX8_takes_28 : decode cX8_takes 28 = .ok (.getfield 12, 3) := by decide +kernel
theorem dX8_takes_31 : decode cX8_takes 31 = .ok (.invokevirtual 130, 3) := by decide +kernel
theorem dX8_takes_34 : decode cX8_takes 34 = .ok (.aload_n 0, 1) := by decide +kernel
theorem dX8_takes_35 : decode cX8_takes 35 = .ok (.getfield 12, 3) := by decide +kernel
theorem dX8_takes_38 : decode cX8_takes 38 = .ok (.iload_n 1, 1) := by decide +kernel
theorem dX8_takes_39 : decode cX8_takes 39 = .ok (.invokevirtual 137, 3) := by decide +kernel
theorem dX8_takes_42 : decode cX8_takes 42 = .ok (.aload_n 0, 1) := by decide +kernel
theorem dX8_takes_43 : decode cX8_takes 43 = .ok (.getfield 12, 3) := by decide +kernel
theorem dX8_takes_46 : decode cX8_takes 46 = .ok (.invokevirtual 92, 3) := by decide +kernel
theorem dX8_takes_49 : decode cX8_takes 49 = .ok (.ireturn, 1) := by decide +kernel
theorem dX8_tenses_0 : decode cX8_tenses 0 = .ok (.aload_n 0, 1) := by decide +kernel
theorem dX8_tenses_1 : decode cX8_tenses 1 = .ok (.iload_n 1, 1) := by decide +kernel
theorem dX8_tenses_2 : decode cX8_tenses 2 = .ok (.invokevirtual 95, 3) := by decide +kernel
theorem dX8_tenses_5 : decode cX8_tenses 5 = .ok (.ifCond .eq 13, 3) := by decide +kernel
theorem dX8_tenses_8 : decode cX8_tenses 8 = .ok (.iload_n 2, 1) := by decide +kernel
theorem dX8_tenses_9 : decode cX8_tenses 9 = .ok (.ifCond .lt 9, 3) := by decide +kernel
theorem dX8_tenses_12 : decode cX8_tenses 12 = .ok (.iload_n 2, 1) := by decide +kernel
theorem dX8_tenses_13 : decode cX8_tenses 13 = .ok (.bipush 8, 2) := by decide +kernel
theorem dX8_tenses_15 : decode cX8_tenses 15 = .ok (.if_icmp .lt 5, 3) := by decide +kernel
theorem dX8_tenses_18 : decode cX8_tenses 18 = .ok (.iconst (-1), 1) := by decide +kernel
theorem dX8_tenses_19 : decode cX8_tenses 19 = .ok (.ireturn, 1) := by decide +kernel
theorem dX8_tenses_20 : decode cX8_tenses 20 = .ok (.aload_n 0, 1) := by decide +kernel
theorem dX8_tenses_21 : decode cX8_tenses 21 = .ok (.getfield 12, 3) := by decide +kernel
theorem dX8_tenses_24 : decode cX8_tenses 24 = .ok (.iload_n 1, 1) := by decide +kernel
theorem dX8_tenses_25 : decode cX8_tenses 25 = .ok (.invokevirtual 98, 3) := by decide +kernel
theorem dX8_tenses_28 : decode cX8_tenses 28 = .ok (.istore_n 3, 1) := by decide +kernel
theorem dX8_tenses_29 : decode cX8_tenses 29 = .ok (.iload_n 3, 1) := by decide +kernel
theorem dX8_tenses_30 : decode cX8_tenses 30 = .ok (.iload_n 2, 1) := by decide +kernel
theorem dX8_tenses_31 : decode cX8_tenses 31 = .ok (.if_icmp .ne 6, 3) := by decide +kernel
theorem dX8_tenses_34 : decode cX8_tenses 34 = .ok (.bipush (-2), 2) := by decide +kernel
theorem dX8_tenses_36 : decode cX8_tenses 36 = .ok (.ireturn, 1) := by decide +kernel
theorem dX8_tenses_37 : decode cX8_tenses 37 = .ok (.aload_n 0, 1) := by decide +kernel
theorem dX8_tenses_38 : decode cX8_tenses 38 = .ok (.getfield 29, 3) := by decide +kernel
theorem dX8_tenses_41 : decode cX8_tenses 41 = .ok (.aload_n 0, 1) := by decide +kernel
theorem dX8_tenses_42 : decode cX8_tenses 42 = .ok (.getfield 12, 3) := by decide +kernel
theorem dX8_tenses_45 : decode cX8_tenses 45 = .ok (.invokevirtual 130, 3) := by decide +kernel
theorem dX8_tenses_48 : decode cX8_tenses 48 = .ok (.aload_n 0, 1) := by decide +kernel
theorem dX8_tenses_49 : decode cX8_tenses 49 = .ok (.getfield 12, 3) := by decide +kernel
theorem dX8_tenses_52 : decode cX8_tenses 52 = .ok (.iload_n 1, 1) := by decide +kernel
theorem dX8_tenses_53 : decode cX8_tenses 53 = .ok (.iload_n 2, 1) := by decide +kernel
theorem dX8_tenses_54 : decode cX8_tenses 54 = .ok (.invokevirtual 141, 3) := by decide +kernel
theorem dX8_tenses_57 : decode cX8_tenses 57 = .ok (.iload_n 3, 1) := by decide +kernel
theorem dX8_tenses_58 : decode cX8_tenses 58 = .ok (.ireturn, 1) := by decide +kernel
theorem dX8_links_0 : decode cX8_links 0 = .ok (.aload_n 0, 1) := by decide +kernel
theorem dX8_links_1 : decode cX8_links 1 = .ok (.iload_n 1, 1) := by decide +kernel
theorem dX8_links_2 : decode cX8_links 2 = .ok (.invokevirtual 95, 3) := by decide +kernel
theorem dX8_links_5 : decode cX8_links 5 = .ok (.ifCond .eq 16, 3) := by decide +kernel
theorem dX8_links_8 : decode cX8_links 8 = .ok (.iload_n 1, 1) := by decide +kernel
theorem dX8_links_9 : decode cX8_links 9 = .ok (.ifCond .eq 12, 3) := by decide +kernel
theorem dX8_links_12 : decode cX8_links 12 = .ok (.iload_n 2, 1) := by decide +kernel
theorem dX8_links_13 : decode cX8_links 13 = .ok (.ifCond .lt 8, 3) := by decide +kernel
theorem dX8_links_16 : decode cX8_links 16 = .ok (.iload_n 2, 1) := by decide +kernel
theorem dX8_links_17 : decode cX8_links 17 = .ok (.iconst 4, 1) := by decide +kernel
theorem dX8_links_18 : decode cX8_links 18 = .ok (.if_icmp .lt 5, 3) := by decide +kernel
theorem dX8_links_21 : decode cX8_links 21 = .ok (.iconst (-1), 1) := by decide +kernel
theorem dX8_links_22 : decode cX8_links 22 = .ok (.ireturn, 1) := by decide +kernel
theorem dX8_links_23 : decode cX8_links 23 = .ok (.aload_n 0, 1) := by decide +kernel
theorem dX8_links_24 : decode cX8_links 24 = .ok (.getfield 12, 3) := by decide +kernel
theorem dX8_links_27 : decode cX8_links 27 = .ok (.iload_n 1, 1) := by decide +kernel
theorem dX8_links_28 : decode cX8_links 28 = .ok (.invokevirtual 102, 3) := by decide +kernel
theorem dX8_links_31 : decode cX8_links 31 = .ok (.istore_n 3, 1) := by decide +kernel
theorem dX8_links_32 : decode cX8_links 32 = .ok (.iload_n 3, 1) := by decide +kernel
theorem dX8_links_33 : decode cX8_links 33 = .ok (.iload_n 2, 1) := by decide +kernel
theorem dX8_links_34 : decode cX8_links 34 = .ok (.if_icmp .ne 6, 3) := by decide +kernel
theorem dX8_links_37 : decode cX8_links 37 = .ok (.bipush (-2), 2) := by decide +kernel
theorem dX8_links_39 : decode cX8_links 39 = .ok (.ireturn, 1) := by decide +kernel
theorem dX8_links_40 : decode cX8_links 40 = .ok (.aload_n 0, 1) := by decide +kernel
theorem dX8_links_41 : decode cX8_links 41 = .ok (.getfield 29, 3) := by decide +kernel
theorem dX8_links_44 : decode cX8_links 44 = .ok (.aload_n 0, 1) := by decide +kernel
theorem dX8_links_45 : decode cX8_links 45 = .ok (.getfield 12, 3) := by decide +kernel
theorem dX8_links_48 : decode cX8_links 48 = .ok (.invokevirtual 130, 3) := by decide +kernel
theorem dX8_links_51 : decode cX8_links 51 = .ok (.aload_n 0, 1) := by decide +kernel
theorem dX8_links_52 : decode cX8_links 52 = .ok (.getfield 12, 3) := by decide +kernel
theorem dX8_links_55 : decode cX8_links 55 = .ok (.iload_n 1, 1) := by decide +kernel
theorem dX8_links_56 : decode cX8_links 56 = .ok (.iload_n 2, 1) := by decide +kernel
theorem dX8_links_57 : decode cX8_links 57 = .ok (.invokevirtual 145, 3) := by decide +kernel
theorem dX8_links_60 : decode cX8_links 60 = .ok (.iload_n 3, 1) := by decide +kernel
theorem dX8_links_61 : decode cX8_links 61 = .ok (.ireturn, 1) := by decide +kernel
theorem dX8_undo_0 : decode cX8_undo 0 = .ok (.aload_n 0, 1) := by decide +kernel
theorem dX8_undo_1 : decode cX8_undo 1 = .ok (.getfield 29, 3) := by decide +kernel
theorem dX8_undo_4 : decode cX8_undo 4 = .ok (.invokevirtual 148, 3) := by decide +kernel
theorem dX8_undo_7 : decode cX8_undo 7 = .ok (.ifCond .ne 6, 3) := by decide +kernel
theorem dX8_undo_10 : decode cX8_undo 10 = .ok (.bipush (-2), 2) := by decide +kernel
theorem dX8_undo_12 : decode cX8_undo 12 = .ok (.ireturn, 1) := by decide +kernel
theorem dX8_undo_13 : decode cX8_undo 13 = .ok (.aload_n 0, 1) := by decide +kernel
theorem dX8_undo_14 : decode cX8_undo 14 = .ok (.getfield 29, 3) := by decide +kernel
theorem dX8_undo_17 : decode cX8_undo 17 = .ok (.aload_n 0, 1) := by decide +kernel
theorem dX8_undo_18 : decode cX8_undo 18 = .ok (.getfield 12, 3) := by decide +kernel
theorem dX8_undo_21 : decode cX8_undo 21 = .ok (.invokevirtual 149, 3) := by decide +kernel
theorem dX8_undo_24 : decode cX8_undo 24 = .ok (.aload_n 0, 1) := by decide +kernel
theorem dX8_undo_25 : decode cX8_undo 25 = .ok (.getfield 29, 3) := by decide +kernel
theorem dX8_undo_28 : decode cX8_undo 28 = .ok (.invokevirtual 148, 3) := by decide +kernel
theorem dX8_undo_31 : decode cX8_undo 31 = .ok (.ireturn, 1) := by decide +kernel
theorem dX8_sound_0 : decode cX8_sound 0 = .ok (.aload_n 0, 1) := by decide +kernel
theorem dX8_sound_1 : decode cX8_sound 1 = .ok (.invokevirtual 152, 3) := by decide +kernel
theorem dX8_sound_4 : decode cX8_sound 4 = .ok (.aload_n 0, 1) := by decide +kernel
theorem dX8_sound_5 : decode cX8_sound 5 = .ok (.getfield 50, 3) := by decide +kernel
theorem dX8_sound_8 : decode cX8_sound 8 = .ok (.invokevirtual 155, 3) := by decide +kernel
theorem dX8_sound_11 : decode cX8_sound 11 = .ok (.ifCond .eq 7, 3) := by decide +kernel
theorem dX8_sound_14 : decode cX8_sound 14 = .ok (.iconst 1, 1) := by decide +kernel
theorem dX8_sound_15 : decode cX8_sound 15 = .ok (.goto 4, 3) := by decide +kernel
theorem dX8_sound_18 : decode cX8_sound 18 = .ok (.iconst 0, 1) := by decide +kernel
theorem dX8_sound_19 : decode cX8_sound 19 = .ok (.ireturn, 1) := by decide +kernel
theorem dX8_clash_0 : decode cX8_clash 0 = .ok (.iload_n 1, 1) := by decide +kernel
theorem dX8_clash_1 : decode cX8_clash 1 = .ok (.ifCond .lt 8, 3) := by decide +kernel
theorem dX8_clash_4 : decode cX8_clash 4 = .ok (.iload_n 1, 1) := by decide +kernel
theorem dX8_clash_5 : decode cX8_clash 5 = .ok (.iconst 1, 1) := by decide +kernel
theorem dX8_clash_6 : decode cX8_clash 6 = .ok (.if_icmp .le 5, 3) := by decide +kernel
theorem dX8_clash_9 : decode cX8_clash 9 = .ok (.iconst (-1), 1) := by decide +kernel
theorem dX8_clash_10 : decode cX8_clash 10 = .ok (.ireturn, 1) := by decide +kernel
theorem dX8_clash_11 : decode cX8_clash 11 = .ok (.aload_n 0, 1) := by decide +kernel
theorem dX8_clash_12 : decode cX8_clash 12 = .ok (.getfield 57, 3) := by decide +kernel
theorem dX8_clash_15 : decode cX8_clash 15 = .ok (.aload_n 0, 1) := by decide +kernel
theorem dX8_clash_16 : decode cX8_clash 16 = .ok (.getfield 12, 3) := by decide +kernel
theorem dX8_clash_19 : decode cX8_clash 19 = .ok (.invokevirtual 159, 3) := by decide +kernel
theorem dX8_clash_22 : decode cX8_clash 22 = .ok (.istore_n 2, 1) := by decide +kernel
theorem dX8_clash_23 : decode cX8_clash 23 = .ok (.iload_n 2, 1) := by decide +kernel
theorem dX8_clash_24 : decode cX8_clash 24 = .ok (.ifCond .ne 6, 3) := by decide +kernel
theorem dX8_clash_27 : decode cX8_clash 27 = .ok (.bipush (-9), 2) := by decide +kernel
theorem dX8_clash_29 : decode cX8_clash 29 = .ok (.ireturn, 1) := by decide +kernel
theorem dX8_clash_30 : decode cX8_clash 30 = .ok (.iload_n 1, 1) := by decide +kernel
theorem dX8_clash_31 : decode cX8_clash 31 = .ok (.ifCond .ne 7, 3) := by decide +kernel
theorem dX8_clash_34 : decode cX8_clash 34 = .ok (.iload_n 2, 1) := by decide +kernel
theorem dX8_clash_35 : decode cX8_clash 35 = .ok (.goto 7, 3) := by decide +kernel
theorem dX8_clash_38 : decode cX8_clash 38 = .ok (.iload_n 2, 1) := by decide +kernel
theorem dX8_clash_39 : decode cX8_clash 39 = .ok (.invokestatic 162, 3) := by decide +kernel
theorem dX8_clash_42 : decode cX8_clash 42 = .ok (.ireturn, 1) := by decide +kernel
theorem dX8_known_0 : decode cX8_known 0 = .ok (.aload_n 0, 1) := by decide +kernel
theorem dX8_known_1 : decode cX8_known 1 = .ok (.iload_n 1, 1) := by decide +kernel
theorem dX8_known_2 : decode cX8_known 2 = .ok (.invokevirtual 167, 3) := by decide +kernel
theorem dX8_known_5 : decode cX8_known 5 = .ok (.ifCond .eq 11, 3) := by decide +kernel
theorem dX8_known_8 : decode cX8_known 8 = .ok (.aload_n 0, 1) := by decide +kernel
theorem dX8_known_9 : decode cX8_known 9 = .ok (.iload_n 2, 1) := by decide +kernel
theorem dX8_known_10 : decode cX8_known 10 = .ok (.invokevirtual 167, 3) := by decide +kernel
theorem dX8_known_13 : decode cX8_known 13 = .ok (.ifCond .ne 5, 3) := by decide +kernel
theorem dX8_known_16 : decode cX8_known 16 = .ok (.iconst (-1), 1) := by decide +kernel
theorem dX8_known_17 : decode cX8_known 17 = .ok (.ireturn, 1) := by decide +kernel
theorem dX8_known_18 : decode cX8_known 18 = .ok (.aload_n 0, 1) := by decide +kernel
theorem dX8_known_19 : decode cX8_known 19 = .ok (.invokevirtual 152, 3) := by decide +kernel
theorem dX8_known_22 : decode cX8_known 22 = .ok (.aload_n 0, 1) := by decide +kernel
theorem dX8_known_23 : decode cX8_known 23 = .ok (.getfield 50, 3) := by decide +kernel
theorem dX8_known_26 : decode cX8_known 26 = .ok (.iload_n 1, 1) := by decide +kernel
theorem dX8_known_27 : decode cX8_known 27 = .ok (.iload_n 2, 1) := by decide +kernel
theorem dX8_known_28 : decode cX8_known 28 = .ok (.invokevirtual 170, 3) := by decide +kernel
theorem dX8_known_31 : decode cX8_known 31 = .ok (.ireturn, 1) := by decide +kernel
theorem dX8_line_0 : decode cX8_line 0 = .ok (.aload_n 0, 1) := by decide +kernel
theorem dX8_line_1 : decode cX8_line 1 = .ok (.iload_n 1, 1) := by decide +kernel
theorem dX8_line_2 : decode cX8_line 2 = .ok (.invokevirtual 167, 3) := by decide +kernel
theorem dX8_line_5 : decode cX8_line 5 = .ok (.ifCond .ne 5, 3) := by decide +kernel
theorem dX8_line_8 : decode cX8_line 8 = .ok (.iconst (-1), 1) := by decide +kernel
theorem dX8_line_9 : decode cX8_line 9 = .ok (.ireturn, 1) := by decide +kernel
theorem dX8_line_10 : decode cX8_line 10 = .ok (.aload_n 0, 1) := by decide +kernel
theorem dX8_line_11 : decode cX8_line 11 = .ok (.invokevirtual 152, 3) := by decide +kernel
theorem dX8_line_14 : decode cX8_line 14 = .ok (.aload_n 0, 1) := by decide +kernel
theorem dX8_line_15 : decode cX8_line 15 = .ok (.getfield 50, 3) := by decide +kernel
theorem dX8_line_18 : decode cX8_line 18 = .ok (.invokevirtual 155, 3) := by decide +kernel
theorem dX8_line_21 : decode cX8_line 21 = .ok (.ifCond .eq 14, 3) := by decide +kernel
theorem dX8_line_24 : decode cX8_line 24 = .ok (.aload_n 0, 1) := by decide +kernel
theorem dX8_line_25 : decode cX8_line 25 = .ok (.getfield 50, 3) := by decide +kernel
theorem dX8_line_28 : decode cX8_line 28 = .ok (.iload_n 1, 1) := by decide +kernel
theorem dX8_line_29 : decode cX8_line 29 = .ok (.invokevirtual 174, 3) := by decide +kernel
theorem dX8_line_32 : decode cX8_line 32 = .ok (.goto 5, 3) := by decide +kernel
theorem dX8_line_35 : decode cX8_line 35 = .ok (.bipush (-9), 2) := by decide +kernel
theorem dX8_line_37 : decode cX8_line 37 = .ok (.ireturn, 1) := by decide +kernel
theorem dX8_would_0 : decode cX8_would 0 = .ok (.aload_n 0, 1) := by decide +kernel
theorem dX8_would_1 : decode cX8_would 1 = .ok (.iload_n 1, 1) := by decide +kernel
theorem dX8_would_2 : decode cX8_would 2 = .ok (.iload_n 2, 1) := by decide +kernel
theorem dX8_would_3 : decode cX8_would 3 = .ok (.iload_n 3, 1) := by decide +kernel
theorem dX8_would_4 : decode cX8_would 4 = .ok (.invokevirtual 123, 3) := by decide +kernel
theorem dX8_would_7 : decode cX8_would 7 = .ok (.ifCond .ne 5, 3) := by decide +kernel
theorem dX8_would_10 : decode cX8_would 10 = .ok (.iconst (-1), 1) := by decide +kernel
theorem dX8_would_11 : decode cX8_would 11 = .ok (.ireturn, 1) := by decide +kernel
theorem dX8_would_12 : decode cX8_would 12 = .ok (.aload_n 0, 1) := by decide +kernel
theorem dX8_would_13 : decode cX8_would 13 = .ok (.invokevirtual 152, 3) := by decide +kernel
theorem dX8_would_16 : decode cX8_would 16 = .ok (.aload_n 0, 1) := by decide +kernel
theorem dX8_would_17 : decode cX8_would 17 = .ok (.getfield 50, 3) := by decide +kernel
theorem dX8_would_20 : decode cX8_would 20 = .ok (.iload_n 1, 1) := by decide +kernel
theorem dX8_would_21 : decode cX8_would 21 = .ok (.iload_n 3, 1) := by decide +kernel
theorem dX8_would_22 : decode cX8_would 22 = .ok (.invokevirtual 170, 3) := by decide +kernel
theorem dX8_would_25 : decode cX8_would 25 = .ok (.istore 4, 2) := by decide +kernel
theorem dX8_would_27 : decode cX8_would 27 = .ok (.iload 4, 2) := by decide +kernel
theorem dX8_would_29 : decode cX8_would 29 = .ok (.iconst 4, 1) := by decide +kernel
theorem dX8_would_30 : decode cX8_would 30 = .ok (.if_icmp .ne 5, 3) := by decide +kernel
theorem dX8_would_33 : decode cX8_would 33 = .ok (.iconst 4, 1) := by decide +kernel
theorem dX8_would_34 : decode cX8_would 34 = .ok (.ireturn, 1) := by decide +kernel
theorem dX8_would_35 : decode cX8_would 35 = .ok (.iload 4, 2) := by decide +kernel
theorem dX8_would_37 : decode cX8_would 37 = .ok (.ifCond .ne 5, 3) := by decide +kernel
theorem dX8_would_40 : decode cX8_would 40 = .ok (.iconst 1, 1) := by decide +kernel
theorem dX8_would_41 : decode cX8_would 41 = .ok (.ireturn, 1) := by decide +kernel
theorem dX8_would_42 : decode cX8_would 42 = .ok (.iload_n 2, 1) := by decide +kernel
theorem dX8_would_43 : decode cX8_would 43 = .ok (.ifCond .ne 7, 3) := by decide +kernel
theorem dX8_would_46 : decode cX8_would 46 = .ok (.iconst 1, 1) := by decide +kernel
theorem dX8_would_47 : decode cX8_would 47 = .ok (.goto 4, 3) := by decide +kernel
theorem dX8_would_50 : decode cX8_would 50 = .ok (.iconst 2, 1) := by decide +kernel
theorem dX8_would_51 : decode cX8_would 51 = .ok (.istore 5, 2) := by decide +kernel
theorem dX8_would_53 : decode cX8_would 53 = .ok (.iload 4, 2) := by decide +kernel
theorem dX8_would_55 : decode cX8_would 55 = .ok (.iload 5, 2) := by decide +kernel
theorem dX8_would_57 : decode cX8_would 57 = .ok (.if_icmp .ne 7, 3) := by decide +kernel
theorem dX8_would_60 : decode cX8_would 60 = .ok (.iconst 0, 1) := by decide +kernel
theorem dX8_would_61 : decode cX8_would 61 = .ok (.goto 4, 3) := by decide +kernel
theorem dX8_would_64 : decode cX8_would 64 = .ok (.iconst 2, 1) := by decide +kernel
theorem dX8_would_65 : decode cX8_would 65 = .ok (.ireturn, 1) := by decide +kernel
theorem dX8_orders_0 : decode cX8_orders 0 = .ok (.aload_n 0, 1) := by decide +kernel
theorem dX8_orders_1 : decode cX8_orders 1 = .ok (.invokevirtual 177, 3) := by decide +kernel
theorem dX8_orders_4 : decode cX8_orders 4 = .ok (.aload_n 0, 1) := by decide +kernel
theorem dX8_orders_5 : decode cX8_orders 5 = .ok (.getfield 64, 3) := by decide +kernel
theorem dX8_orders_8 : decode cX8_orders 8 = .ok (.invokevirtual 180, 3) := by decide +kernel
theorem dX8_orders_11 : decode cX8_orders 11 = .ok (.ireturn, 1) := by decide +kernel
theorem dX8_left_0 : decode cX8_left 0 = .ok (.aload_n 0, 1) := by decide +kernel
theorem dX8_left_1 : decode cX8_left 1 = .ok (.iload_n 1, 1) := by decide +kernel
theorem dX8_left_2 : decode cX8_left 2 = .ok (.invokevirtual 95, 3) := by decide +kernel
theorem dX8_left_5 : decode cX8_left 5 = .ok (.ifCond .eq 25, 3) := by decide +kernel
theorem dX8_left_8 : decode cX8_left 8 = .ok (.aload_n 0, 1) := by decide +kernel
theorem dX8_left_9 : decode cX8_left 9 = .ok (.iload_n 2, 1) := by decide +kernel
theorem dX8_left_10 : decode cX8_left 10 = .ok (.invokevirtual 95, 3) := by decide +kernel
theorem dX8_left_13 : decode cX8_left 13 = .ok (.ifCond .eq 17, 3) := by decide +kernel
theorem dX8_left_16 : decode cX8_left 16 = .ok (.iload_n 1, 1) := by decide +kernel
theorem dX8_left_17 : decode cX8_left 17 = .ok (.iload_n 2, 1) := by decide +kernel
theorem dX8_left_18 : decode cX8_left 18 = .ok (.if_icmp .eq 12, 3) := by decide +kernel
theorem dX8_left_21 : decode cX8_left 21 = .ok (.iload_n 3, 1) := by decide +kernel
theorem dX8_left_22 : decode cX8_left 22 = .ok (.ifCond .lt 8, 3) := by decide +kernel
theorem dX8_left_25 : decode cX8_left 25 = .ok (.iload_n 3, 1) := by decide +kernel
theorem dX8_left_26 : decode cX8_left 26 = .ok (.iconst 3, 1) := by decide +kernel
theorem dX8_left_27 : decode cX8_left 27 = .ok (.if_icmp .lt 5, 3) := by decide +kernel
theorem dX8_left_30 : decode cX8_left 30 = .ok (.iconst (-1), 1) := by decide +kernel
theorem dX8_left_31 : decode cX8_left 31 = .ok (.ireturn, 1) := by decide +kernel
theorem dX8_left_32 : decode cX8_left 32 = .ok (.aload_n 0, 1) := by decide +kernel
theorem dX8_left_33 : decode cX8_left 33 = .ok (.invokevirtual 177, 3) := by decide +kernel
theorem dX8_left_36 : decode cX8_left 36 = .ok (.aload_n 0, 1) := by decide +kernel
theorem dX8_left_37 : decode cX8_left 37 = .ok (.getfield 64, 3) := by decide +kernel
theorem dX8_left_40 : decode cX8_left 40 = .ok (.invokevirtual 183, 3) := by decide +kernel
theorem dX8_left_43 : decode cX8_left 43 = .ok (.aload_n 0, 1) := by decide +kernel
theorem dX8_left_44 : decode cX8_left 44 = .ok (.getfield 64, 3) := by decide +kernel
theorem dX8_left_47 : decode cX8_left 47 = .ok (.iload_n 1, 1) := by decide +kernel
theorem dX8_left_48 : decode cX8_left 48 = .ok (.iload_n 3, 1) := by decide +kernel
theorem dX8_left_49 : decode cX8_left 49 = .ok (.iload_n 2, 1) := by decide +kernel
theorem dX8_left_50 : decode cX8_left 50 = .ok (.invokevirtual 186, 3) := by decide +kernel
theorem dX8_left_53 : decode cX8_left 53 = .ok (.ireturn, 1) := by decide +kernel
theorem dX8_best_0 : decode cX8_best 0 = .ok (.iload_n 1, 1) := by decide +kernel
theorem dX8_best_1 : decode cX8_best 1 = .ok (.ifCond .lt 8, 3) := by decide +kernel
theorem dX8_best_4 : decode cX8_best 4 = .ok (.iload_n 1, 1) := by decide +kernel
theorem dX8_best_5 : decode cX8_best 5 = .ok (.iconst 2, 1) := by decide +kernel
theorem dX8_best_6 : decode cX8_best 6 = .ok (.if_icmp .le 5, 3) := by decide +kernel
theorem dX8_best_9 : decode cX8_best 9 = .ok (.iconst (-1), 1) := by decide +kernel
theorem dX8_best_10 : decode cX8_best 10 = .ok (.ireturn, 1) := by decide +kernel
theorem dX8_best_11 : decode cX8_best 11 = .ok (.aload_n 0, 1) := by decide +kernel
theorem dX8_best_12 : decode cX8_best 12 = .ok (.invokevirtual 177, 3) := by decide +kernel
theorem dX8_best_15 : decode cX8_best 15 = .ok (.aload_n 0, 1) := by decide +kernel
theorem dX8_best_16 : decode cX8_best 16 = .ok (.getfield 64, 3) := by decide +kernel
theorem dX8_best_19 : decode cX8_best 19 = .ok (.invokevirtual 183, 3) := by decide +kernel
theorem dX8_best_22 : decode cX8_best 22 = .ok (.bipush (-9), 2) := by decide +kernel
theorem dX8_best_24 : decode cX8_best 24 = .ok (.istore_n 2, 1) := by decide +kernel
theorem dX8_best_25 : decode cX8_best 25 = .ok (.bipush (-9), 2) := by decide +kernel
theorem dX8_best_27 : decode cX8_best 27 = .ok (.istore_n 3, 1) := by decide +kernel
theorem dX8_best_28 : decode cX8_best 28 = .ok (.bipush (-9), 2) := by decide +kernel
theorem dX8_best_30 : decode cX8_best 30 = .ok (.istore 4, 2) := by decide +kernel
theorem dX8_best_32 : decode cX8_best 32 = .ok (.iconst 0, 1) := by decide +kernel
theorem dX8_best_33 : decode cX8_best 33 = .ok (.istore 5, 2) := by decide +kernel
theorem dX8_best_35 : decode cX8_best 35 = .ok (.iload 5, 2) := by decide +kernel
theorem dX8_best_37 : decode cX8_best 37 = .ok (.aload_n 0, 1) := by decide +kernel
theorem dX8_best_38 : decode cX8_best 38 = .ok (.getfield 12, 3) := by decide +kernel
theorem dX8_best_41 : decode cX8_best 41 = .ok (.invokevirtual 190, 3) := by decide +kernel
theorem dX8_best_44 : decode cX8_best 44 = .ok (.if_icmp .ge 93, 3) := by decide +kernel
theorem dX8_best_47 : decode cX8_best 47 = .ok (.iload 5, 2) := by decide +kernel
theorem dX8_best_49 : decode cX8_best 49 = .ok (.iconst 1, 1) := by decide +kernel
theorem dX8_best_50 : decode cX8_best 50 = .ok (.iadd, 1) := by decide +kernel
theorem dX8_best_51 : decode cX8_best 51 = .ok (.istore 6, 2) := by decide +kernel
theorem dX8_best_53 : decode cX8_best 53 = .ok (.iload 6, 2) := by decide +kernel
theorem dX8_best_55 : decode cX8_best 55 = .ok (.aload_n 0, 1) := by decide +kernel
theorem dX8_best_56 : decode cX8_best 56 = .ok (.getfield 12, 3) := by decide +kernel
theorem dX8_best_59 : decode cX8_best 59 = .ok (.invokevirtual 190, 3) := by decide +kernel
theorem dX8_best_62 : decode cX8_best 62 = .ok (.if_icmp .ge 69, 3) := by decide +kernel
theorem dX8_best_65 : decode cX8_best 65 = .ok (.aload_n 0, 1) := by decide +kernel
theorem dX8_best_66 : decode cX8_best 66 = .ok (.getfield 50, 3) := by decide +kernel
theorem dX8_best_69 : decode cX8_best 69 = .ok (.iload 5, 2) := by decide +kernel
theorem dX8_best_71 : decode cX8_best 71 = .ok (.invokestatic 193, 3) := by decide +kernel
theorem dX8_best_74 : decode cX8_best 74 = .ok (.iload 6, 2) := by decide +kernel
theorem dX8_best_76 : decode cX8_best 76 = .ok (.invokestatic 193, 3) := by decide +kernel
theorem dX8_best_79 : decode cX8_best 79 = .ok (.invokevirtual 170, 3) := by decide +kernel
theorem dX8_best_82 : decode cX8_best 82 = .ok (.ifCond .eq 6, 3) := by decide +kernel
theorem dX8_best_85 : decode cX8_best 85 = .ok (.goto 40, 3) := by decide +kernel
theorem dX8_best_88 : decode cX8_best 88 = .ok (.aload_n 0, 1) := by decide +kernel
theorem dX8_best_89 : decode cX8_best 89 = .ok (.getfield 64, 3) := by decide +kernel
theorem dX8_best_92 : decode cX8_best 92 = .ok (.iload 5, 2) := by decide +kernel
theorem dX8_best_94 : decode cX8_best 94 = .ok (.iload 6, 2) := by decide +kernel
theorem dX8_best_96 : decode cX8_best 96 = .ok (.invokevirtual 196, 3) := by decide +kernel
theorem dX8_best_99 : decode cX8_best 99 = .ok (.istore 7, 2) := by decide +kernel
theorem dX8_best_101 : decode cX8_best 101 = .ok (.iload 4, 2) := by decide +kernel
theorem dX8_best_103 : decode cX8_best 103 = .ok (.bipush (-9), 2) := by decide +kernel
theorem dX8_best_105 : decode cX8_best 105 = .ok (.if_icmp .eq 10, 3) := by decide +kernel
theorem dX8_best_108 : decode cX8_best 108 = .ok (.iload 7, 2) := by decide +kernel
theorem dX8_best_110 : decode cX8_best 110 = .ok (.iload 4, 2) := by decide +kernel
theorem dX8_best_112 : decode cX8_best 112 = .ok (.if_icmp .ge 13, 3) := by decide +kernel
theorem dX8_best_115 : decode cX8_best 115 = .ok (.iload 5, 2) := by decide +kernel
theorem dX8_best_117 : decode cX8_best 117 = .ok (.istore_n 2, 1) := by decide +kernel
theorem dX8_best_118 : decode cX8_best 118 = .ok (.iload 6, 2) := by decide +kernel
theorem dX8_best_120 : decode cX8_best 120 = .ok (.istore_n 3, 1) := by decide +kernel
theorem dX8_best_121 : decode cX8_best 121 = .ok (.iload 7, 2) := by decide +kernel
theorem dX8_best_123 : decode cX8_best 123 = .ok (.istore 4, 2) := by decide +kernel
theorem dX8_best_125 : decode cX8_best 125 = .ok (.iinc 6 1, 3) := by decide +kernel
theorem dX8_best_128 : decode cX8_best 128 = .ok (.goto (-75), 3) := by decide +kernel
theorem dX8_best_131 : decode cX8_best 131 = .ok (.iinc 5 1, 3) := by decide +kernel
theorem dX8_best_134 : decode cX8_best 134 = .ok (.goto (-99), 3) := by decide +kernel
theorem dX8_best_137 : decode cX8_best 137 = .ok (.iload_n 1, 1) := by decide +kernel
theorem dX8_best_138 : decode cX8_best 138 = .ok (.ifCond .ne 5, 3) := by decide +kernel
theorem dX8_best_141 : decode cX8_best 141 = .ok (.iload_n 2, 1) := by decide +kernel
theorem dX8_best_142 : decode cX8_best 142 = .ok (.ireturn, 1) := by decide +kernel
theorem dX8_best_143 : decode cX8_best 143 = .ok (.iload_n 1, 1) := by decide +kernel
theorem dX8_best_144 : decode cX8_best 144 = .ok (.iconst 1, 1) := by decide +kernel
theorem dX8_best_145 : decode cX8_best 145 = .ok (.if_icmp .ne 7, 3) := by decide +kernel
theorem dX8_best_148 : decode cX8_best 148 = .ok (.iload_n 3, 1) := by decide +kernel
theorem dX8_best_149 : decode cX8_best 149 = .ok (.goto 5, 3) := by decide +kernel
theorem dX8_best_152 : decode cX8_best 152 = .ok (.iload 4, 2) := by decide +kernel
theorem dX8_best_154 : decode cX8_best 154 = .ok (.ireturn, 1) := by decide +kernel
theorem dX8_sees_0 : decode cX8_sees 0 = .ok (.aload_n 0, 1) := by decide +kernel
theorem dX8_sees_1 : decode cX8_sees 1 = .ok (.iload_n 1, 1) := by decide +kernel
theorem dX8_sees_2 : decode cX8_sees 2 = .ok (.invokevirtual 167, 3) := by decide +kernel
theorem dX8_sees_5 : decode cX8_sees 5 = .ok (.ifCond .eq 20, 3) := by decide +kernel
theorem dX8_sees_8 : decode cX8_sees 8 = .ok (.aload_n 0, 1) := by decide +kernel
theorem dX8_sees_9 : decode cX8_sees 9 = .ok (.iload_n 2, 1) := by decide +kernel
theorem dX8_sees_10 : decode cX8_sees 10 = .ok (.invokevirtual 167, 3) := by decide +kernel
theorem dX8_sees_13 : decode cX8_sees 13 = .ok (.ifCond .eq 12, 3) := by decide +kernel
theorem dX8_sees_16 : decode cX8_sees 16 = .ok (.iload_n 3, 1) := by decide +kernel
theorem dX8_sees_17 : decode cX8_sees 17 = .ok (.ifCond .lt 8, 3) := by decide +kernel
theorem dX8_sees_20 : decode cX8_sees 20 = .ok (.iload_n 3, 1) := by decide +kernel
theorem dX8_sees_21 : decode cX8_sees 21 = .ok (.iconst 4, 1) := by decide +kernel
theorem dX8_sees_22 : decode cX8_sees 22 = .ok (.if_icmp .le 5, 3) := by decide +kernel
theorem dX8_sees_25 : decode cX8_sees 25 = .ok (.iconst (-1), 1) := by decide +kernel
theorem dX8_sees_26 : decode cX8_sees 26 = .ok (.ireturn, 1) := by decide +kernel
theorem dX8_sees_27 : decode cX8_sees 27 = .ok (.aload_n 0, 1) := by decide +kernel
theorem dX8_sees_28 : decode cX8_sees 28 = .ok (.getfield 43, 3) := by decide +kernel
theorem dX8_sees_31 : decode cX8_sees 31 = .ok (.iload_n 1, 1) := by decide +kernel
theorem dX8_sees_32 : decode cX8_sees 32 = .ok (.iload_n 2, 1) := by decide +kernel
theorem dX8_sees_33 : decode cX8_sees 33 = .ok (.iload_n 3, 1) := by decide +kernel
theorem dX8_sees_34 : decode cX8_sees 34 = .ok (.invokevirtual 199, 3) := by decide +kernel
theorem dX8_sees_37 : decode cX8_sees 37 = .ok (.ifCond .eq 13, 3) := by decide +kernel
theorem dX8_sees_40 : decode cX8_sees 40 = .ok (.aload_n 0, 1) := by decide +kernel
theorem dX8_sees_41 : decode cX8_sees 41 = .ok (.getfield 43, 3) := by decide +kernel
theorem dX8_sees_44 : decode cX8_sees 44 = .ok (.invokevirtual 202, 3) := by decide +kernel
theorem dX8_sees_47 : decode cX8_sees 47 = .ok (.goto 5, 3) := by decide +kernel
theorem dX8_sees_50 : decode cX8_sees 50 = .ok (.bipush (-3), 2) := by decide +kernel
theorem dX8_sees_52 : decode cX8_sees 52 = .ok (.ireturn, 1) := by decide +kernel
theorem dX8_forget_0 : decode cX8_forget 0 = .ok (.aload_n 0, 1) := by decide +kernel
theorem dX8_forget_1 : decode cX8_forget 1 = .ok (.getfield 43, 3) := by decide +kernel
theorem dX8_forget_4 : decode cX8_forget 4 = .ok (.invokevirtual 202, 3) := by decide +kernel
theorem dX8_forget_7 : decode cX8_forget 7 = .ok (.istore_n 1, 1) := by decide +kernel
theorem dX8_forget_8 : decode cX8_forget 8 = .ok (.aload_n 0, 1) := by decide +kernel
theorem dX8_forget_9 : decode cX8_forget 9 = .ok (.getfield 43, 3) := by decide +kernel
theorem dX8_forget_12 : decode cX8_forget 12 = .ok (.invokevirtual 87, 3) := by decide +kernel
theorem dX8_forget_15 : decode cX8_forget 15 = .ok (.iload_n 1, 1) := by decide +kernel
theorem dX8_forget_16 : decode cX8_forget 16 = .ok (.ireturn, 1) := by decide +kernel
theorem dX8_unseen_0 : decode cX8_unseen 0 = .ok (.iconst 0, 1) := by decide +kernel
theorem dX8_unseen_1 : decode cX8_unseen 1 = .ok (.istore_n 1, 1) := by decide +kernel
theorem dX8_unseen_2 : decode cX8_unseen 2 = .ok (.iconst 0, 1) := by decide +kernel
theorem dX8_unseen_3 : decode cX8_unseen 3 = .ok (.istore_n 2, 1) := by decide +kernel
theorem dX8_unseen_4 : decode cX8_unseen 4 = .ok (.iload_n 2, 1) := by decide +kernel
theorem dX8_unseen_5 : decode cX8_unseen 5 = .ok (.aload_n 0, 1) := by decide +kernel
theorem dX8_unseen_6 : decode cX8_unseen 6 = .ok (.getfield 12, 3) := by decide +kernel
theorem dX8_unseen_9 : decode cX8_unseen 9 = .ok (.invokevirtual 92, 3) := by decide +kernel
theorem dX8_unseen_12 : decode cX8_unseen 12 = .ok (.if_icmp .ge 46, 3) := by decide +kernel
theorem dX8_unseen_15 : decode cX8_unseen 15 = .ok (.aload_n 0, 1) := by decide +kernel
theorem dX8_unseen_16 : decode cX8_unseen 16 = .ok (.aload_n 0, 1) := by decide +kernel
theorem dX8_unseen_17 : decode cX8_unseen 17 = .ok (.getfield 12, 3) := by decide +kernel
theorem dX8_unseen_20 : decode cX8_unseen 20 = .ok (.invokevirtual 203, 3) := by decide +kernel
theorem dX8_unseen_23 : decode cX8_unseen 23 = .ok (.iconst 1, 1) := by decide +kernel
theorem dX8_unseen_24 : decode cX8_unseen 24 = .ok (.iload_n 2, 1) := by decide +kernel
theorem dX8_unseen_25 : decode cX8_unseen 25 = .ok (.ishl, 1) := by decide +kernel
theorem dX8_unseen_26 : decode cX8_unseen 26 = .ok (.iconst (-1), 1) := by decide +kernel
theorem dX8_unseen_27 : decode cX8_unseen 27 = .ok (.ixor, 1) := by decide +kernel
theorem dX8_unseen_28 : decode cX8_unseen 28 = .ok (.iand, 1) := by decide +kernel
theorem dX8_unseen_29 : decode cX8_unseen 29 = .ok (.invokevirtual 206, 3) := by decide +kernel
theorem dX8_unseen_32 : decode cX8_unseen 32 = .ok (.aload_n 0, 1) := by decide +kernel
theorem dX8_unseen_33 : decode cX8_unseen 33 = .ok (.getfield 43, 3) := by decide +kernel
theorem dX8_unseen_36 : decode cX8_unseen 36 = .ok (.aload_n 0, 1) := by decide +kernel
theorem dX8_unseen_37 : decode cX8_unseen 37 = .ok (.getfield 50, 3) := by decide +kernel
theorem dX8_unseen_40 : decode cX8_unseen 40 = .ok (.invokevirtual 209, 3) := by decide +kernel
theorem dX8_unseen_43 : decode cX8_unseen 43 = .ok (.ifCond .eq 9, 3) := by decide +kernel
theorem dX8_unseen_46 : decode cX8_unseen 46 = .ok (.iload_n 1, 1) := by decide +kernel
theorem dX8_unseen_47 : decode cX8_unseen 47 = .ok (.iconst 1, 1) := by decide +kernel
theorem dX8_unseen_48 : decode cX8_unseen 48 = .ok (.iload_n 2, 1) := by decide +kernel
theorem dX8_unseen_49 : decode cX8_unseen 49 = .ok (.ishl, 1) := by decide +kernel
theorem dX8_unseen_50 : decode cX8_unseen 50 = .ok (.ior, 1) := by decide +kernel
theorem dX8_unseen_51 : decode cX8_unseen 51 = .ok (.istore_n 1, 1) := by decide +kernel
theorem dX8_unseen_52 : decode cX8_unseen 52 = .ok (.iinc 2 1, 3) := by decide +kernel
theorem dX8_unseen_55 : decode cX8_unseen 55 = .ok (.goto (-51), 3) := by decide +kernel
theorem dX8_unseen_58 : decode cX8_unseen 58 = .ok (.iload_n 1, 1) := by decide +kernel
theorem dX8_unseen_59 : decode cX8_unseen 59 = .ok (.ireturn, 1) := by decide +kernel
theorem dX8_keep_0 : decode cX8_keep 0 = .ok (.iload_n 1, 1) := by decide +kernel
theorem dX8_keep_1 : decode cX8_keep 1 = .ok (.ifCond .lt 8, 3) := by decide +kernel
theorem dX8_keep_4 : decode cX8_keep 4 = .ok (.iload_n 1, 1) := by decide +kernel
theorem dX8_keep_5 : decode cX8_keep 5 = .ok (.iconst 2, 1) := by decide +kernel
theorem dX8_keep_6 : decode cX8_keep 6 = .ok (.if_icmp .lt 5, 3) := by decide +kernel
theorem dX8_keep_9 : decode cX8_keep 9 = .ok (.iconst (-1), 1) := by decide +kernel
theorem dX8_keep_10 : decode cX8_keep 10 = .ok (.ireturn, 1) := by decide +kernel
theorem dX8_keep_11 : decode cX8_keep 11 = .ok (.aload_n 0, 1) := by decide +kernel
theorem dX8_keep_12 : decode cX8_keep 12 = .ok (.getfield 36, 3) := by decide +kernel
theorem dX8_keep_15 : decode cX8_keep 15 = .ok (.iload_n 1, 1) := by decide +kernel
theorem dX8_keep_16 : decode cX8_keep 16 = .ok (.aload_n 0, 1) := by decide +kernel
theorem dX8_keep_17 : decode cX8_keep 17 = .ok (.getfield 12, 3) := by decide +kernel
theorem dX8_keep_20 : decode cX8_keep 20 = .ok (.invokevirtual 213, 3) := by decide +kernel
theorem dX8_keep_23 : decode cX8_keep 23 = .ok (.aload_n 0, 1) := by decide +kernel
theorem dX8_keep_24 : decode cX8_keep 24 = .ok (.getfield 12, 3) := by decide +kernel
theorem dX8_keep_27 : decode cX8_keep 27 = .ok (.invokevirtual 92, 3) := by decide +kernel
theorem dX8_keep_30 : decode cX8_keep 30 = .ok (.ireturn, 1) := by decide +kernel
theorem dX8_back_0 : decode cX8_back 0 = .ok (.iload_n 1, 1) := by decide +kernel
theorem dX8_back_1 : decode cX8_back 1 = .ok (.ifCond .lt 8, 3) := by decide +kernel
theorem dX8_back_4 : decode cX8_back 4 = .ok (.iload_n 1, 1) := by decide +kernel
theorem dX8_back_5 : decode cX8_back 5 = .ok (.iconst 2, 1) := by decide +kernel
theorem dX8_back_6 : decode cX8_back 6 = .ok (.if_icmp .lt 5, 3) := by decide +kernel
theorem dX8_back_9 : decode cX8_back 9 = .ok (.iconst (-1), 1) := by decide +kernel
theorem dX8_back_10 : decode cX8_back 10 = .ok (.ireturn, 1) := by decide +kernel
theorem dX8_back_11 : decode cX8_back 11 = .ok (.aload_n 0, 1) := by decide +kernel
theorem dX8_back_12 : decode cX8_back 12 = .ok (.getfield 36, 3) := by decide +kernel
theorem dX8_back_15 : decode cX8_back 15 = .ok (.iload_n 1, 1) := by decide +kernel
theorem dX8_back_16 : decode cX8_back 16 = .ok (.invokevirtual 217, 3) := by decide +kernel
theorem dX8_back_19 : decode cX8_back 19 = .ok (.ifCond .ne 6, 3) := by decide +kernel
theorem dX8_back_22 : decode cX8_back 22 = .ok (.bipush (-2), 2) := by decide +kernel
theorem dX8_back_24 : decode cX8_back 24 = .ok (.ireturn, 1) := by decide +kernel
theorem dX8_back_25 : decode cX8_back 25 = .ok (.aload_n 0, 1) := by decide +kernel
theorem dX8_back_26 : decode cX8_back 26 = .ok (.getfield 36, 3) := by decide +kernel
theorem dX8_back_29 : decode cX8_back 29 = .ok (.iload_n 1, 1) := by decide +kernel
theorem dX8_back_30 : decode cX8_back 30 = .ok (.aload_n 0, 1) := by decide +kernel
theorem dX8_back_31 : decode cX8_back 31 = .ok (.getfield 12, 3) := by decide +kernel
theorem dX8_back_34 : decode cX8_back 34 = .ok (.invokevirtual 220, 3) := by decide +kernel
theorem dX8_back_37 : decode cX8_back 37 = .ok (.aload_n 0, 1) := by decide +kernel
theorem dX8_back_38 : decode cX8_back 38 = .ok (.getfield 29, 3) := by decide +kernel
theorem dX8_back_41 : decode cX8_back 41 = .ok (.invokevirtual 88, 3) := by decide +kernel
theorem dX8_back_44 : decode cX8_back 44 = .ok (.aload_n 0, 1) := by decide +kernel
theorem dX8_back_45 : decode cX8_back 45 = .ok (.getfield 12, 3) := by decide +kernel
theorem dX8_back_48 : decode cX8_back 48 = .ok (.invokevirtual 92, 3) := by decide +kernel
theorem dX8_back_51 : decode cX8_back 51 = .ok (.ireturn, 1) := by decide +kernel
theorem dX8_count_0 : decode cX8_count 0 = .ok (.iload_n 1, 1) := by decide +kernel
theorem dX8_count_1 : decode cX8_count 1 = .ok (.tableswitch 87 0 5 #[39, 47, 55, 63, 71, 79], 39) := by decide +kernel
theorem dX8_count_40 : decode cX8_count 40 = .ok (.aload_n 0, 1) := by decide +kernel
theorem dX8_count_41 : decode cX8_count 41 = .ok (.getfield 12, 3) := by decide +kernel
theorem dX8_count_44 : decode cX8_count 44 = .ok (.invokevirtual 190, 3) := by decide +kernel
theorem dX8_count_47 : decode cX8_count 47 = .ok (.ireturn, 1) := by decide +kernel
theorem dX8_count_48 : decode cX8_count 48 = .ok (.aload_n 0, 1) := by decide +kernel
theorem dX8_count_49 : decode cX8_count 49 = .ok (.getfield 12, 3) := by decide +kernel
theorem dX8_count_52 : decode cX8_count 52 = .ok (.invokevirtual 127, 3) := by decide +kernel
theorem dX8_count_55 : decode cX8_count 55 = .ok (.ireturn, 1) := by decide +kernel
theorem dX8_count_56 : decode cX8_count 56 = .ok (.aload_n 0, 1) := by decide +kernel
theorem dX8_count_57 : decode cX8_count 57 = .ok (.getfield 12, 3) := by decide +kernel
theorem dX8_count_60 : decode cX8_count 60 = .ok (.invokevirtual 92, 3) := by decide +kernel
theorem dX8_count_63 : decode cX8_count 63 = .ok (.ireturn, 1) := by decide +kernel
theorem dX8_count_64 : decode cX8_count 64 = .ok (.aload_n 0, 1) := by decide +kernel
theorem dX8_count_65 : decode cX8_count 65 = .ok (.getfield 43, 3) := by decide +kernel
theorem dX8_count_68 : decode cX8_count 68 = .ok (.invokevirtual 202, 3) := by decide +kernel
theorem dX8_count_71 : decode cX8_count 71 = .ok (.ireturn, 1) := by decide +kernel
theorem dX8_count_72 : decode cX8_count 72 = .ok (.aload_n 0, 1) := by decide +kernel
theorem dX8_count_73 : decode cX8_count 73 = .ok (.getfield 22, 3) := by decide +kernel
theorem dX8_count_76 : decode cX8_count 76 = .ok (.invokevirtual 72, 3) := by decide +kernel
theorem dX8_count_79 : decode cX8_count 79 = .ok (.ireturn, 1) := by decide +kernel
theorem dX8_count_80 : decode cX8_count 80 = .ok (.aload_n 0, 1) := by decide +kernel
theorem dX8_count_81 : decode cX8_count 81 = .ok (.getfield 29, 3) := by decide +kernel
theorem dX8_count_84 : decode cX8_count 84 = .ok (.invokevirtual 148, 3) := by decide +kernel
theorem dX8_count_87 : decode cX8_count 87 = .ok (.ireturn, 1) := by decide +kernel
theorem dX8_count_88 : decode cX8_count 88 = .ok (.iconst (-1), 1) := by decide +kernel
theorem dX8_count_89 : decode cX8_count 89 = .ok (.ireturn, 1) := by decide +kernel
theorem dX8_isClause_0 : decode cX8_isClause 0 = .ok (.iload_n 1, 1) := by decide +kernel
theorem dX8_isClause_1 : decode cX8_isClause 1 = .ok (.ifCond .lt 18, 3) := by decide +kernel
theorem dX8_isClause_4 : decode cX8_isClause 4 = .ok (.iload_n 1, 1) := by decide +kernel
theorem dX8_isClause_5 : decode cX8_isClause 5 = .ok (.aload_n 0, 1) := by decide +kernel
theorem dX8_isClause_6 : decode cX8_isClause 6 = .ok (.getfield 12, 3) := by decide +kernel
theorem dX8_isClause_9 : decode cX8_isClause 9 = .ok (.invokevirtual 190, 3) := by decide +kernel
theorem dX8_isClause_12 : decode cX8_isClause 12 = .ok (.if_icmp .ge 7, 3) := by decide +kernel
theorem dX8_isClause_15 : decode cX8_isClause 15 = .ok (.iconst 1, 1) := by decide +kernel
theorem dX8_isClause_16 : decode cX8_isClause 16 = .ok (.goto 4, 3) := by decide +kernel
theorem dX8_isClause_19 : decode cX8_isClause 19 = .ok (.iconst 0, 1) := by decide +kernel
theorem dX8_isClause_20 : decode cX8_isClause 20 = .ok (.ireturn, 1) := by decide +kernel
theorem dX8_isStatement_0 : decode cX8_isStatement 0 = .ok (.iload_n 1, 1) := by decide +kernel
theorem dX8_isStatement_1 : decode cX8_isStatement 1 = .ok (.ifCond .lt 18, 3) := by decide +kernel
theorem dX8_isStatement_4 : decode cX8_isStatement 4 = .ok (.iload_n 1, 1) := by decide +kernel
theorem dX8_isStatement_5 : decode cX8_isStatement 5 = .ok (.aload_n 0, 1) := by decide +kernel
theorem dX8_isStatement_6 : decode cX8_isStatement 6 = .ok (.getfield 12, 3) := by decide +kernel
theorem dX8_isStatement_9 : decode cX8_isStatement 9 = .ok (.invokevirtual 92, 3) := by decide +kernel
theorem dX8_isStatement_12 : decode cX8_isStatement 12 = .ok (.if_icmp .ge 7, 3) := by decide +kernel
theorem dX8_isStatement_15 : decode cX8_isStatement 15 = .ok (.iconst 1, 1) := by decide +kernel
theorem dX8_isStatement_16 : decode cX8_isStatement 16 = .ok (.goto 4, 3) := by decide +kernel
theorem dX8_isStatement_19 : decode cX8_isStatement 19 = .ok (.iconst 0, 1) := by decide +kernel
theorem dX8_isStatement_20 : decode cX8_isStatement 20 = .ok (.ireturn, 1) := by decide +kernel
theorem dX8_isTime_0 : decode cX8_isTime 0 = .ok (.iload_n 1, 1) := by decide +kernel
theorem dX8_isTime_1 : decode cX8_isTime 1 = .ok (.ifCond .lt 20, 3) := by decide +kernel
theorem dX8_isTime_4 : decode cX8_isTime 4 = .ok (.iload_n 1, 1) := by decide +kernel
theorem dX8_isTime_5 : decode cX8_isTime 5 = .ok (.iconst 2, 1) := by decide +kernel
theorem dX8_isTime_6 : decode cX8_isTime 6 = .ok (.aload_n 0, 1) := by decide +kernel
theorem dX8_isTime_7 : decode cX8_isTime 7 = .ok (.getfield 12, 3) := by decide +kernel
theorem dX8_isTime_10 : decode cX8_isTime 10 = .ok (.invokevirtual 190, 3) := by decide +kernel
theorem dX8_isTime_13 : decode cX8_isTime 13 = .ok (.imul, 1) := by decide +kernel
theorem dX8_isTime_14 : decode cX8_isTime 14 = .ok (.if_icmp .gt 7, 3) := by decide +kernel
theorem dX8_isTime_17 : decode cX8_isTime 17 = .ok (.iconst 1, 1) := by decide +kernel
theorem dX8_isTime_18 : decode cX8_isTime 18 = .ok (.goto 4, 3) := by decide +kernel
theorem dX8_isTime_21 : decode cX8_isTime 21 = .ok (.iconst 0, 1) := by decide +kernel
theorem dX8_isTime_22 : decode cX8_isTime 22 = .ok (.ireturn, 1) := by decide +kernel
theorem dX8_isNowOrEvent_0 : decode cX8_isNowOrEvent 0 = .ok (.aload_n 0, 1) := by decide +kernel
theorem dX8_isNowOrEvent_1 : decode cX8_isNowOrEvent 1 = .ok (.iload_n 1, 1) := by decide +kernel
theorem dX8_isNowOrEvent_2 : decode cX8_isNowOrEvent 2 = .ok (.invokevirtual 167, 3) := by decide +kernel
theorem dX8_isNowOrEvent_5 : decode cX8_isNowOrEvent 5 = .ok (.ifCond .eq 13, 3) := by decide +kernel
theorem dX8_isNowOrEvent_8 : decode cX8_isNowOrEvent 8 = .ok (.iload_n 1, 1) := by decide +kernel
theorem dX8_isNowOrEvent_9 : decode cX8_isNowOrEvent 9 = .ok (.iconst 2, 1) := by decide +kernel
theorem dX8_isNowOrEvent_10 : decode cX8_isNowOrEvent 10 = .ok (.irem, 1) := by decide +kernel
theorem dX8_isNowOrEvent_11 : decode cX8_isNowOrEvent 11 = .ok (.ifCond .ne 7, 3) := by decide +kernel
theorem dX8_isNowOrEvent_14 : decode cX8_isNowOrEvent 14 = .ok (.iconst 1, 1) := by decide +kernel
theorem dX8_isNowOrEvent_15 : decode cX8_isNowOrEvent 15 = .ok (.goto 4, 3) := by decide +kernel
theorem dX8_isNowOrEvent_18 : decode cX8_isNowOrEvent 18 = .ok (.iconst 0, 1) := by decide +kernel
theorem dX8_isNowOrEvent_19 : decode cX8_isNowOrEvent 19 = .ok (.ireturn, 1) := by decide +kernel
theorem dX8_canBeSaid_0 : decode cX8_canBeSaid 0 = .ok (.aload_n 0, 1) := by decide +kernel
theorem dX8_canBeSaid_1 : decode cX8_canBeSaid 1 = .ok (.iload_n 1, 1) := by decide +kernel
theorem dX8_canBeSaid_2 : decode cX8_canBeSaid 2 = .ok (.invokevirtual 222, 3) := by decide +kernel
theorem dX8_canBeSaid_5 : decode cX8_canBeSaid 5 = .ok (.ifCond .eq 29, 3) := by decide +kernel
theorem dX8_canBeSaid_8 : decode cX8_canBeSaid 8 = .ok (.aload_n 0, 1) := by decide +kernel
theorem dX8_canBeSaid_9 : decode cX8_canBeSaid 9 = .ok (.iload_n 3, 1) := by decide +kernel
theorem dX8_canBeSaid_10 : decode cX8_canBeSaid 10 = .ok (.invokevirtual 222, 3) := by decide +kernel
theorem dX8_canBeSaid_13 : decode cX8_canBeSaid 13 = .ok (.ifCond .eq 21, 3) := by decide +kernel
theorem dX8_canBeSaid_16 : decode cX8_canBeSaid 16 = .ok (.iload_n 1, 1) := by decide +kernel
theorem dX8_canBeSaid_17 : decode cX8_canBeSaid 17 = .ok (.iload_n 3, 1) := by decide +kernel
theorem dX8_canBeSaid_18 : decode cX8_canBeSaid 18 = .ok (.if_icmp .eq 16, 3) := by decide +kernel
theorem dX8_canBeSaid_21 : decode cX8_canBeSaid 21 = .ok (.iload_n 2, 1) := by decide +kernel
theorem dX8_canBeSaid_22 : decode cX8_canBeSaid 22 = .ok (.ifCond .lt 12, 3) := by decide +kernel
theorem dX8_canBeSaid_25 : decode cX8_canBeSaid 25 = .ok (.iload_n 2, 1) := by decide +kernel
theorem dX8_canBeSaid_26 : decode cX8_canBeSaid 26 = .ok (.iconst 2, 1) := by decide +kernel
theorem dX8_canBeSaid_27 : decode cX8_canBeSaid 27 = .ok (.if_icmp .ge 7, 3) := by decide +kernel
theorem dX8_canBeSaid_30 : decode cX8_canBeSaid 30 = .ok (.iconst 1, 1) := by decide +kernel
theorem dX8_canBeSaid_31 : decode cX8_canBeSaid 31 = .ok (.goto 4, 3) := by decide +kernel
theorem dX8_canBeSaid_34 : decode cX8_canBeSaid 34 = .ok (.iconst 0, 1) := by decide +kernel
theorem dX8_canBeSaid_35 : decode cX8_canBeSaid 35 = .ok (.ireturn, 1) := by decide +kernel
theorem dX8_orderAll_0 : decode cX8_orderAll 0 = .ok (.aload_n 0, 1) := by decide +kernel
theorem dX8_orderAll_1 : decode cX8_orderAll 1 = .ok (.aload_n 0, 1) := by decide +kernel
theorem dX8_orderAll_2 : decode cX8_orderAll 2 = .ok (.getfield 12, 3) := by decide +kernel
theorem dX8_orderAll_5 : decode cX8_orderAll 5 = .ok (.invokevirtual 203, 3) := by decide +kernel
theorem dX8_orderAll_8 : decode cX8_orderAll 8 = .ok (.invokevirtual 206, 3) := by decide +kernel
theorem dX8_orderAll_11 : decode cX8_orderAll 11 = .ok (.return_, 1) := by decide +kernel
theorem dX8_orderSet_0 : decode cX8_orderSet 0 = .ok (.aload_n 0, 1) := by decide +kernel
theorem dX8_orderSet_1 : decode cX8_orderSet 1 = .ok (.getfield 50, 3) := by decide +kernel
theorem dX8_orderSet_4 : decode cX8_orderSet 4 = .ok (.invokevirtual 225, 3) := by decide +kernel
theorem dX8_orderSet_7 : decode cX8_orderSet 7 = .ok (.iconst 0, 1) := by decide +kernel
theorem dX8_orderSet_8 : decode cX8_orderSet 8 = .ok (.istore_n 2, 1) := by decide +kernel
theorem dX8_orderSet_9 : decode cX8_orderSet 9 = .ok (.iload_n 2, 1) := by decide +kernel
theorem dX8_orderSet_10 : decode cX8_orderSet 10 = .ok (.aload_n 0, 1) := by decide +kernel
theorem dX8_orderSet_11 : decode cX8_orderSet 11 = .ok (.getfield 12, 3) := by decide +kernel
theorem dX8_orderSet_14 : decode cX8_orderSet 14 = .ok (.invokevirtual 92, 3) := by decide +kernel
theorem dX8_orderSet_17 : decode cX8_orderSet 17 = .ok (.if_icmp .ge 29, 3) := by decide +kernel
theorem dX8_orderSet_20 : decode cX8_orderSet 20 = .ok (.iload_n 1, 1) := by decide +kernel
theorem dX8_orderSet_21 : decode cX8_orderSet 21 = .ok (.iload_n 2, 1) := by decide +kernel
theorem dX8_orderSet_22 : decode cX8_orderSet 22 = .ok (.invokestatic 226, 3) := by decide +kernel
theorem dX8_orderSet_25 : decode cX8_orderSet 25 = .ok (.ifCond .eq 15, 3) := by decide +kernel
theorem dX8_orderSet_28 : decode cX8_orderSet 28 = .ok (.aload_n 0, 1) := by decide +kernel
theorem dX8_orderSet_29 : decode cX8_orderSet 29 = .ok (.getfield 12, 3) := by decide +kernel
theorem dX8_orderSet_32 : decode cX8_orderSet 32 = .ok (.iload_n 2, 1) := by decide +kernel
theorem dX8_orderSet_33 : decode cX8_orderSet 33 = .ok (.aload_n 0, 1) := by decide +kernel
theorem dX8_orderSet_34 : decode cX8_orderSet 34 = .ok (.getfield 50, 3) := by decide +kernel
theorem dX8_orderSet_37 : decode cX8_orderSet 37 = .ok (.invokevirtual 230, 3) := by decide +kernel
theorem dX8_orderSet_40 : decode cX8_orderSet 40 = .ok (.iinc 2 1, 3) := by decide +kernel
theorem dX8_orderSet_43 : decode cX8_orderSet 43 = .ok (.goto (-34), 3) := by decide +kernel
theorem dX8_orderSet_46 : decode cX8_orderSet 46 = .ok (.return_, 1) := by decide +kernel
theorem dX8_tallyAll_0 : decode cX8_tallyAll 0 = .ok (.aload_n 0, 1) := by decide +kernel
theorem dX8_tallyAll_1 : decode cX8_tallyAll 1 = .ok (.aload_n 0, 1) := by decide +kernel
theorem dX8_tallyAll_2 : decode cX8_tallyAll 2 = .ok (.getfield 12, 3) := by decide +kernel
theorem dX8_tallyAll_5 : decode cX8_tallyAll 5 = .ok (.invokevirtual 203, 3) := by decide +kernel
theorem dX8_tallyAll_8 : decode cX8_tallyAll 8 = .ok (.invokevirtual 206, 3) := by decide +kernel
theorem dX8_tallyAll_11 : decode cX8_tallyAll 11 = .ok (.aload_n 0, 1) := by decide +kernel
theorem dX8_tallyAll_12 : decode cX8_tallyAll 12 = .ok (.getfield 64, 3) := by decide +kernel
theorem dX8_tallyAll_15 : decode cX8_tallyAll 15 = .ok (.aload_n 0, 1) := by decide +kernel
theorem dX8_tallyAll_16 : decode cX8_tallyAll 16 = .ok (.getfield 50, 3) := by decide +kernel
theorem dX8_tallyAll_19 : decode cX8_tallyAll 19 = .ok (.aload_n 0, 1) := by decide +kernel
theorem dX8_tallyAll_20 : decode cX8_tallyAll 20 = .ok (.getfield 12, 3) := by decide +kernel
theorem dX8_tallyAll_23 : decode cX8_tallyAll 23 = .ok (.invokevirtual 190, 3) := by decide +kernel
theorem dX8_tallyAll_26 : decode cX8_tallyAll 26 = .ok (.invokevirtual 234, 3) := by decide +kernel
theorem dX8_tallyAll_29 : decode cX8_tallyAll 29 = .ok (.return_, 1) := by decide +kernel
theorem dX8_lookOf_0 : decode cX8_lookOf 0 = .ok (.iconst 1, 1) := by decide +kernel
theorem dX8_lookOf_1 : decode cX8_lookOf 1 = .ok (.iconst 2, 1) := by decide +kernel
theorem dX8_lookOf_2 : decode cX8_lookOf 2 = .ok (.iload_n 0, 1) := by decide +kernel
theorem dX8_lookOf_3 : decode cX8_lookOf 3 = .ok (.imul, 1) := by decide +kernel
theorem dX8_lookOf_4 : decode cX8_lookOf 4 = .ok (.iadd, 1) := by decide +kernel
theorem dX8_lookOf_5 : decode cX8_lookOf 5 = .ok (.ireturn, 1) := by decide +kernel
theorem dX8_eventOf_0 : decode cX8_eventOf 0 = .ok (.iconst 2, 1) := by decide +kernel
theorem dX8_eventOf_1 : decode cX8_eventOf 1 = .ok (.iconst 2, 1) := by decide +kernel
theorem dX8_eventOf_2 : decode cX8_eventOf 2 = .ok (.iload_n 0, 1) := by decide +kernel
theorem dX8_eventOf_3 : decode cX8_eventOf 3 = .ok (.imul, 1) := by decide +kernel
theorem dX8_eventOf_4 : decode cX8_eventOf 4 = .ok (.iadd, 1) := by decide +kernel
theorem dX8_eventOf_5 : decode cX8_eventOf 5 = .ok (.ireturn, 1) := by decide +kernel
theorem dX8_has_0 : decode cX8_has 0 = .ok (.iload_n 0, 1) := by decide +kernel
theorem dX8_has_1 : decode cX8_has 1 = .ok (.iload_n 1, 1) := by decide +kernel
theorem dX8_has_2 : decode cX8_has 2 = .ok (.ishr, 1) := by decide +kernel
theorem dX8_has_3 : decode cX8_has 3 = .ok (.iconst 1, 1) := by decide +kernel
theorem dX8_has_4 : decode cX8_has 4 = .ok (.iand, 1) := by decide +kernel
theorem dX8_has_5 : decode cX8_has 5 = .ok (.iconst 1, 1) := by decide +kernel
theorem dX8_has_6 : decode cX8_has 6 = .ok (.if_icmp .ne 7, 3) := by decide +kernel
theorem dX8_has_9 : decode cX8_has 9 = .ok (.iconst 1, 1) := by decide +kernel
theorem dX8_has_10 : decode cX8_has 10 = .ok (.goto 4, 3) := by decide +kernel
theorem dX8_has_13 : decode cX8_has 13 = .ok (.iconst 0, 1) := by decide +kernel
theorem dX8_has_14 : decode cX8_has 14 = .ok (.ireturn, 1) := by decide +kernel
