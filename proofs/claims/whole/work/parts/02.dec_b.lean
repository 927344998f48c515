theorem dX6_init_0 : decode cX6_init 0 = .ok (.aload_n 0, 1) := by decide +kernel
theorem dX6_init_1 : decode cX6_init 1 = .ok (.invokespecial 5, 3) := by decide +kernel
theorem dX6_init_4 : decode cX6_init 4 = .ok (.aload_n 0, 1) := by decide +kernel
theorem dX6_init_5 : decode cX6_init 5 = .ok (.bipush 74, 2) := by decide +kernel
theorem dX6_init_7 : decode cX6_init 7 = .ok (.newarray .int, 2) := by decide +kernel
theorem dX6_init_9 : decode cX6_init 9 = .ok (.putfield 11, 3) := by decide +kernel
theorem dX6_init_12 : decode cX6_init 12 = .ok (.return_, 1) := by decide +kernel
theorem dX6_empty_0 : decode cX6_empty 0 = .ok (.aload_n 0, 1) := by decide +kernel
theorem dX6_empty_1 : decode cX6_empty 1 = .ok (.getfield 11, 3) := by decide +kernel
theorem dX6_empty_4 : decode cX6_empty 4 = .ok (.iconst 0, 1) := by decide +kernel
theorem dX6_empty_5 : decode cX6_empty 5 = .ok (.iconst 0, 1) := by decide +kernel
theorem dX6_empty_6 : decode cX6_empty 6 = .ok (.iastore, 1) := by decide +kernel
theorem dX6_empty_7 : decode cX6_empty 7 = .ok (.aload_n 0, 1) := by decide +kernel
theorem dX6_empty_8 : decode cX6_empty 8 = .ok (.getfield 11, 3) := by decide +kernel
theorem dX6_empty_11 : decode cX6_empty 11 = .ok (.iconst 1, 1) := by decide +kernel
theorem dX6_empty_12 : decode cX6_empty 12 = .ok (.iconst 0, 1) := by decide +kernel
theorem dX6_empty_13 : decode cX6_empty 13 = .ok (.iastore, 1) := by decide +kernel
theorem dX6_empty_14 : decode cX6_empty 14 = .ok (.return_, 1) := by decide +kernel
theorem dX6_become_0 : decode cX6_become 0 = .ok (.aload_n 1, 1) := by decide +kernel
theorem dX6_become_1 : decode cX6_become 1 = .ok (.getfield 11, 3) := by decide +kernel
theorem dX6_become_4 : decode cX6_become 4 = .ok (.aload_n 0, 1) := by decide +kernel
theorem dX6_become_5 : decode cX6_become 5 = .ok (.getfield 11, 3) := by decide +kernel
theorem dX6_become_8 : decode cX6_become 8 = .ok (.invokestatic 15, 3) := by decide +kernel
theorem dX6_become_11 : decode cX6_become 11 = .ok (.return_, 1) := by decide +kernel
theorem dX6_copyFrom_0 : decode cX6_copyFrom 0 = .ok (.aload_n 1, 1) := by decide +kernel
theorem dX6_copyFrom_1 : decode cX6_copyFrom 1 = .ok (.aload_n 0, 1) := by decide +kernel
theorem dX6_copyFrom_2 : decode cX6_copyFrom 2 = .ok (.getfield 11, 3) := by decide +kernel
theorem dX6_copyFrom_5 : decode cX6_copyFrom 5 = .ok (.invokestatic 15, 3) := by decide +kernel
theorem dX6_copyFrom_8 : decode cX6_copyFrom 8 = .ok (.return_, 1) := by decide +kernel
theorem dX6_copyTo_0 : decode cX6_copyTo 0 = .ok (.aload_n 0, 1) := by decide +kernel
theorem dX6_copyTo_1 : decode cX6_copyTo 1 = .ok (.getfield 11, 3) := by decide +kernel
theorem dX6_copyTo_4 : decode cX6_copyTo 4 = .ok (.aload_n 1, 1) := by decide +kernel
theorem dX6_copyTo_5 : decode cX6_copyTo 5 = .ok (.invokestatic 15, 3) := by decide +kernel
theorem dX6_copyTo_8 : decode cX6_copyTo 8 = .ok (.return_, 1) := by decide +kernel
theorem dX6_copyRow_0 : decode cX6_copyRow 0 = .ok (.iconst 0, 1) := by decide +kernel
theorem dX6_copyRow_1 : decode cX6_copyRow 1 = .ok (.istore_n 2, 1) := by decide +kernel
theorem dX6_copyRow_2 : decode cX6_copyRow 2 = .ok (.iload_n 2, 1) := by decide +kernel
theorem dX6_copyRow_3 : decode cX6_copyRow 3 = .ok (.bipush 74, 2) := by decide +kernel
theorem dX6_copyRow_5 : decode cX6_copyRow 5 = .ok (.if_icmp .ge 27, 3) := by decide +kernel
theorem dX6_copyRow_8 : decode cX6_copyRow 8 = .ok (.iload_n 2, 1) := by decide +kernel
theorem dX6_copyRow_9 : decode cX6_copyRow 9 = .ok (.aload_n 0, 1) := by decide +kernel
theorem dX6_copyRow_10 : decode cX6_copyRow 10 = .ok (.arraylength, 1) := by decide +kernel
theorem dX6_copyRow_11 : decode cX6_copyRow 11 = .ok (.if_icmp .ge 21, 3) := by decide +kernel
theorem dX6_copyRow_14 : decode cX6_copyRow 14 = .ok (.iload_n 2, 1) := by decide +kernel
theorem dX6_copyRow_15 : decode cX6_copyRow 15 = .ok (.aload_n 1, 1) := by decide +kernel
theorem dX6_copyRow_16 : decode cX6_copyRow 16 = .ok (.arraylength, 1) := by decide +kernel
theorem dX6_copyRow_17 : decode cX6_copyRow 17 = .ok (.if_icmp .ge 15, 3) := by decide +kernel
theorem dX6_copyRow_20 : decode cX6_copyRow 20 = .ok (.aload_n 1, 1) := by decide +kernel
theorem dX6_copyRow_21 : decode cX6_copyRow 21 = .ok (.iload_n 2, 1) := by decide +kernel
theorem dX6_copyRow_22 : decode cX6_copyRow 22 = .ok (.aload_n 0, 1) := by decide +kernel
theorem dX6_copyRow_23 : decode cX6_copyRow 23 = .ok (.iload_n 2, 1) := by decide +kernel
theorem dX6_copyRow_24 : decode cX6_copyRow 24 = .ok (.iaload, 1) := by decide +kernel
theorem dX6_copyRow_25 : decode cX6_copyRow 25 = .ok (.iastore, 1) := by decide +kernel
theorem dX6_copyRow_26 : decode cX6_copyRow 26 = .ok (.iinc 2 1, 3) := by decide +kernel
theorem dX6_copyRow_29 : decode cX6_copyRow 29 = .ok (.goto (-27), 3) := by decide +kernel
theorem dX6_copyRow_32 : decode cX6_copyRow 32 = .ok (.return_, 1) := by decide +kernel
theorem dX6_clauses_0 : decode cX6_clauses 0 = .ok (.aload_n 0, 1) := by decide +kernel
theorem dX6_clauses_1 : decode cX6_clauses 1 = .ok (.getfield 11, 3) := by decide +kernel
theorem dX6_clauses_4 : decode cX6_clauses 4 = .ok (.iconst 0, 1) := by decide +kernel
theorem dX6_clauses_5 : decode cX6_clauses 5 = .ok (.iaload, 1) := by decide +kernel
theorem dX6_clauses_6 : decode cX6_clauses 6 = .ok (.ireturn, 1) := by decide +kernel
theorem dX6_statements_0 : decode cX6_statements 0 = .ok (.aload_n 0, 1) := by decide +kernel
theorem dX6_statements_1 : decode cX6_statements 1 = .ok (.getfield 11, 3) := by decide +kernel
theorem dX6_statements_4 : decode cX6_statements 4 = .ok (.iconst 1, 1) := by decide +kernel
theorem dX6_statements_5 : decode cX6_statements 5 = .ok (.iaload, 1) := by decide +kernel
theorem dX6_statements_6 : decode cX6_statements 6 = .ok (.ireturn, 1) := by decide +kernel
theorem dX6_sayings_0 : decode cX6_sayings 0 = .ok (.aload_n 0, 1) := by decide +kernel
theorem dX6_sayings_1 : decode cX6_sayings 1 = .ok (.invokevirtual 19, 3) := by decide +kernel
theorem dX6_sayings_4 : decode cX6_sayings 4 = .ok (.aload_n 0, 1) := by decide +kernel
theorem dX6_sayings_5 : decode cX6_sayings 5 = .ok (.invokevirtual 23, 3) := by decide +kernel
theorem dX6_sayings_8 : decode cX6_sayings 8 = .ok (.isub, 1) := by decide +kernel
theorem dX6_sayings_9 : decode cX6_sayings 9 = .ok (.ireturn, 1) := by decide +kernel
theorem dX6_everything_0 : decode cX6_everything 0 = .ok (.iconst 1, 1) := by decide +kernel
theorem dX6_everything_1 : decode cX6_everything 1 = .ok (.aload_n 0, 1) := by decide +kernel
theorem dX6_everything_2 : decode cX6_everything 2 = .ok (.invokevirtual 19, 3) := by decide +kernel
theorem dX6_everything_5 : decode cX6_everything 5 = .ok (.ishl, 1) := by decide +kernel
theorem dX6_everything_6 : decode cX6_everything 6 = .ok (.iconst 1, 1) := by decide +kernel
theorem dX6_everything_7 : decode cX6_everything 7 = .ok (.isub, 1) := by decide +kernel
theorem dX6_everything_8 : decode cX6_everything 8 = .ok (.ireturn, 1) := by decide +kernel
theorem dX6_tenseOf_0 : decode cX6_tenseOf 0 = .ok (.aload_n 0, 1) := by decide +kernel
theorem dX6_tenseOf_1 : decode cX6_tenseOf 1 = .ok (.iconst 2, 1) := by decide +kernel
theorem dX6_tenseOf_2 : decode cX6_tenseOf 2 = .ok (.iload_n 1, 1) := by decide +kernel
theorem dX6_tenseOf_3 : decode cX6_tenseOf 3 = .ok (.invokevirtual 26, 3) := by decide +kernel
theorem dX6_tenseOf_6 : decode cX6_tenseOf 6 = .ok (.ireturn, 1) := by decide +kernel
theorem dX6_linkOf_0 : decode cX6_linkOf 0 = .ok (.aload_n 0, 1) := by decide +kernel
theorem dX6_linkOf_1 : decode cX6_linkOf 1 = .ok (.bipush 10, 2) := by decide +kernel
theorem dX6_linkOf_3 : decode cX6_linkOf 3 = .ok (.iload_n 1, 1) := by decide +kernel
theorem dX6_linkOf_4 : decode cX6_linkOf 4 = .ok (.invokevirtual 26, 3) := by decide +kernel
theorem dX6_linkOf_7 : decode cX6_linkOf 7 = .ok (.ireturn, 1) := by decide +kernel
theorem dX6_placeOf_0 : decode cX6_placeOf 0 = .ok (.iconst 0, 1) := by decide +kernel
theorem dX6_placeOf_1 : decode cX6_placeOf 1 = .ok (.istore_n 2, 1) := by decide +kernel
theorem dX6_placeOf_2 : decode cX6_placeOf 2 = .ok (.iload_n 2, 1) := by decide +kernel
theorem dX6_placeOf_3 : decode cX6_placeOf 3 = .ok (.aload_n 0, 1) := by decide +kernel
theorem dX6_placeOf_4 : decode cX6_placeOf 4 = .ok (.invokevirtual 19, 3) := by decide +kernel
theorem dX6_placeOf_7 : decode cX6_placeOf 7 = .ok (.if_icmp .ge 20, 3) := by decide +kernel
theorem dX6_placeOf_10 : decode cX6_placeOf 10 = .ok (.aload_n 0, 1) := by decide +kernel
theorem dX6_placeOf_11 : decode cX6_placeOf 11 = .ok (.iload_n 2, 1) := by decide +kernel
theorem dX6_placeOf_12 : decode cX6_placeOf 12 = .ok (.invokevirtual 30, 3) := by decide +kernel
theorem dX6_placeOf_15 : decode cX6_placeOf 15 = .ok (.iload_n 1, 1) := by decide +kernel
theorem dX6_placeOf_16 : decode cX6_placeOf 16 = .ok (.if_icmp .ne 5, 3) := by decide +kernel
theorem dX6_placeOf_19 : decode cX6_placeOf 19 = .ok (.iload_n 2, 1) := by decide +kernel
theorem dX6_placeOf_20 : decode cX6_placeOf 20 = .ok (.ireturn, 1) := by decide +kernel
theorem dX6_placeOf_21 : decode cX6_placeOf 21 = .ok (.iinc 2 1, 3) := by decide +kernel
theorem dX6_placeOf_24 : decode cX6_placeOf 24 = .ok (.goto (-22), 3) := by decide +kernel
theorem dX6_placeOf_27 : decode cX6_placeOf 27 = .ok (.bipush (-9), 2) := by decide +kernel
theorem dX6_placeOf_29 : decode cX6_placeOf 29 = .ok (.ireturn, 1) := by decide +kernel
theorem dX6_clauseAt_0 : decode cX6_clauseAt 0 = .ok (.aload_n 0, 1) := by decide +kernel
theorem dX6_clauseAt_1 : decode cX6_clauseAt 1 = .ok (.bipush 18, 2) := by decide +kernel
theorem dX6_clauseAt_3 : decode cX6_clauseAt 3 = .ok (.iload_n 1, 1) := by decide +kernel
theorem dX6_clauseAt_4 : decode cX6_clauseAt 4 = .ok (.invokevirtual 34, 3) := by decide +kernel
theorem dX6_clauseAt_7 : decode cX6_clauseAt 7 = .ok (.ireturn, 1) := by decide +kernel
theorem dX6_firstAt_0 : decode cX6_firstAt 0 = .ok (.aload_n 0, 1) := by decide +kernel
theorem dX6_firstAt_1 : decode cX6_firstAt 1 = .ok (.bipush 32, 2) := by decide +kernel
theorem dX6_firstAt_3 : decode cX6_firstAt 3 = .ok (.iload_n 1, 1) := by decide +kernel
theorem dX6_firstAt_4 : decode cX6_firstAt 4 = .ok (.invokevirtual 34, 3) := by decide +kernel
theorem dX6_firstAt_7 : decode cX6_firstAt 7 = .ok (.ireturn, 1) := by decide +kernel
theorem dX6_signAt_0 : decode cX6_signAt 0 = .ok (.aload_n 0, 1) := by decide +kernel
theorem dX6_signAt_1 : decode cX6_signAt 1 = .ok (.bipush 46, 2) := by decide +kernel
theorem dX6_signAt_3 : decode cX6_signAt 3 = .ok (.iload_n 1, 1) := by decide +kernel
theorem dX6_signAt_4 : decode cX6_signAt 4 = .ok (.invokevirtual 34, 3) := by decide +kernel
theorem dX6_signAt_7 : decode cX6_signAt 7 = .ok (.ireturn, 1) := by decide +kernel
theorem dX6_secondAt_0 : decode cX6_secondAt 0 = .ok (.aload_n 0, 1) := by decide +kernel
theorem dX6_secondAt_1 : decode cX6_secondAt 1 = .ok (.bipush 60, 2) := by decide +kernel
theorem dX6_secondAt_3 : decode cX6_secondAt 3 = .ok (.iload_n 1, 1) := by decide +kernel
theorem dX6_secondAt_4 : decode cX6_secondAt 4 = .ok (.invokevirtual 34, 3) := by decide +kernel
theorem dX6_secondAt_7 : decode cX6_secondAt 7 = .ok (.ireturn, 1) := by decide +kernel
theorem dX6_clauseCell_0 : decode cX6_clauseCell 0 = .ok (.iload_n 2, 1) := by decide +kernel
theorem dX6_clauseCell_1 : decode cX6_clauseCell 1 = .ok (.ifCond .lt 20, 3) := by decide +kernel
theorem dX6_clauseCell_4 : decode cX6_clauseCell 4 = .ok (.iload_n 2, 1) := by decide +kernel
theorem dX6_clauseCell_5 : decode cX6_clauseCell 5 = .ok (.bipush 8, 2) := by decide +kernel
theorem dX6_clauseCell_7 : decode cX6_clauseCell 7 = .ok (.if_icmp .ge 14, 3) := by decide +kernel
theorem dX6_clauseCell_10 : decode cX6_clauseCell 10 = .ok (.aload_n 0, 1) := by decide +kernel
theorem dX6_clauseCell_11 : decode cX6_clauseCell 11 = .ok (.getfield 11, 3) := by decide +kernel
theorem dX6_clauseCell_14 : decode cX6_clauseCell 14 = .ok (.iload_n 1, 1) := by decide +kernel
theorem dX6_clauseCell_15 : decode cX6_clauseCell 15 = .ok (.iload_n 2, 1) := by decide +kernel
theorem dX6_clauseCell_16 : decode cX6_clauseCell 16 = .ok (.iadd, 1) := by decide +kernel
theorem dX6_clauseCell_17 : decode cX6_clauseCell 17 = .ok (.iaload, 1) := by decide +kernel
theorem dX6_clauseCell_18 : decode cX6_clauseCell 18 = .ok (.goto 5, 3) := by decide +kernel
theorem dX6_clauseCell_21 : decode cX6_clauseCell 21 = .ok (.bipush (-9), 2) := by decide +kernel
theorem dX6_clauseCell_23 : decode cX6_clauseCell 23 = .ok (.ireturn, 1) := by decide +kernel
theorem dX6_statementCell_0 : decode cX6_statementCell 0 = .ok (.iload_n 2, 1) := by decide +kernel
theorem dX6_statementCell_1 : decode cX6_statementCell 1 = .ok (.ifCond .lt 20, 3) := by decide +kernel
theorem dX6_statementCell_4 : decode cX6_statementCell 4 = .ok (.iload_n 2, 1) := by decide +kernel
theorem dX6_statementCell_5 : decode cX6_statementCell 5 = .ok (.bipush 14, 2) := by decide +kernel
theorem dX6_statementCell_7 : decode cX6_statementCell 7 = .ok (.if_icmp .ge 14, 3) := by decide +kernel
theorem dX6_statementCell_10 : decode cX6_statementCell 10 = .ok (.aload_n 0, 1) := by decide +kernel
theorem dX6_statementCell_11 : decode cX6_statementCell 11 = .ok (.getfield 11, 3) := by decide +kernel
theorem dX6_statementCell_14 : decode cX6_statementCell 14 = .ok (.iload_n 1, 1) := by decide +kernel
theorem dX6_statementCell_15 : decode cX6_statementCell 15 = .ok (.iload_n 2, 1) := by decide +kernel
theorem dX6_statementCell_16 : decode cX6_statementCell 16 = .ok (.iadd, 1) := by decide +kernel
theorem dX6_statementCell_17 : decode cX6_statementCell 17 = .ok (.iaload, 1) := by decide +kernel
theorem dX6_statementCell_18 : decode cX6_statementCell 18 = .ok (.goto 5, 3) := by decide +kernel
theorem dX6_statementCell_21 : decode cX6_statementCell 21 = .ok (.bipush (-9), 2) := by decide +kernel
theorem dX6_statementCell_23 : decode cX6_statementCell 23 = .ok (.ireturn, 1) := by decide +kernel
theorem dX6_setTense_0 : decode cX6_setTense 0 = .ok (.iload_n 1, 1) := by decide +kernel
theorem dX6_setTense_1 : decode cX6_setTense 1 = .ok (.ifCond .lt 18, 3) := by decide +kernel
theorem dX6_setTense_4 : decode cX6_setTense 4 = .ok (.iload_n 1, 1) := by decide +kernel
theorem dX6_setTense_5 : decode cX6_setTense 5 = .ok (.bipush 8, 2) := by decide +kernel
theorem dX6_setTense_7 : decode cX6_setTense 7 = .ok (.if_icmp .ge 12, 3) := by decide +kernel
theorem dX6_setTense_10 : decode cX6_setTense 10 = .ok (.aload_n 0, 1) := by decide +kernel
theorem dX6_setTense_11 : decode cX6_setTense 11 = .ok (.getfield 11, 3) := by decide +kernel
theorem dX6_setTense_14 : decode cX6_setTense 14 = .ok (.iconst 2, 1) := by decide +kernel
theorem dX6_setTense_15 : decode cX6_setTense 15 = .ok (.iload_n 1, 1) := by decide +kernel
theorem dX6_setTense_16 : decode cX6_setTense 16 = .ok (.iadd, 1) := by decide +kernel
theorem dX6_setTense_17 : decode cX6_setTense 17 = .ok (.iload_n 2, 1) := by decide +kernel
theorem dX6_setTense_18 : decode cX6_setTense 18 = .ok (.iastore, 1) := by decide +kernel
theorem dX6_setTense_19 : decode cX6_setTense 19 = .ok (.return_, 1) := by decide +kernel
theorem dX6_setLink_0 : decode cX6_setLink 0 = .ok (.iload_n 1, 1) := by decide +kernel
theorem dX6_setLink_1 : decode cX6_setLink 1 = .ok (.ifCond .lt 19, 3) := by decide +kernel
theorem dX6_setLink_4 : decode cX6_setLink 4 = .ok (.iload_n 1, 1) := by decide +kernel
theorem dX6_setLink_5 : decode cX6_setLink 5 = .ok (.bipush 8, 2) := by decide +kernel
theorem dX6_setLink_7 : decode cX6_setLink 7 = .ok (.if_icmp .ge 13, 3) := by decide +kernel
theorem dX6_setLink_10 : decode cX6_setLink 10 = .ok (.aload_n 0, 1) := by decide +kernel
theorem dX6_setLink_11 : decode cX6_setLink 11 = .ok (.getfield 11, 3) := by decide +kernel
theorem dX6_setLink_14 : decode cX6_setLink 14 = .ok (.bipush 10, 2) := by decide +kernel
theorem dX6_setLink_16 : decode cX6_setLink 16 = .ok (.iload_n 1, 1) := by decide +kernel
theorem dX6_setLink_17 : decode cX6_setLink 17 = .ok (.iadd, 1) := by decide +kernel
theorem dX6_setLink_18 : decode cX6_setLink 18 = .ok (.iload_n 2, 1) := by decide +kernel
theorem dX6_setLink_19 : decode cX6_setLink 19 = .ok (.iastore, 1) := by decide +kernel
theorem dX6_setLink_20 : decode cX6_setLink 20 = .ok (.return_, 1) := by decide +kernel
theorem dX6_addClause_0 : decode cX6_addClause 0 = .ok (.aload_n 0, 1) := by decide +kernel
theorem dX6_addClause_1 : decode cX6_addClause 1 = .ok (.invokevirtual 23, 3) := by decide +kernel
theorem dX6_addClause_4 : decode cX6_addClause 4 = .ok (.istore_n 3, 1) := by decide +kernel
theorem dX6_addClause_5 : decode cX6_addClause 5 = .ok (.iload_n 3, 1) := by decide +kernel
theorem dX6_addClause_6 : decode cX6_addClause 6 = .ok (.bipush 8, 2) := by decide +kernel
theorem dX6_addClause_8 : decode cX6_addClause 8 = .ok (.if_icmp .lt 4, 3) := by decide +kernel
theorem dX6_addClause_11 : decode cX6_addClause 11 = .ok (.return_, 1) := by decide +kernel
theorem dX6_addClause_12 : decode cX6_addClause 12 = .ok (.aload_n 0, 1) := by decide +kernel
theorem dX6_addClause_13 : decode cX6_addClause 13 = .ok (.iload_n 3, 1) := by decide +kernel
theorem dX6_addClause_14 : decode cX6_addClause 14 = .ok (.iload_n 1, 1) := by decide +kernel
theorem dX6_addClause_15 : decode cX6_addClause 15 = .ok (.invokevirtual 37, 3) := by decide +kernel
theorem dX6_addClause_18 : decode cX6_addClause 18 = .ok (.aload_n 0, 1) := by decide +kernel
theorem dX6_addClause_19 : decode cX6_addClause 19 = .ok (.iload_n 3, 1) := by decide +kernel
theorem dX6_addClause_20 : decode cX6_addClause 20 = .ok (.iload_n 2, 1) := by decide +kernel
theorem dX6_addClause_21 : decode cX6_addClause 21 = .ok (.invokevirtual 41, 3) := by decide +kernel
theorem dX6_addClause_24 : decode cX6_addClause 24 = .ok (.aload_n 0, 1) := by decide +kernel
theorem dX6_addClause_25 : decode cX6_addClause 25 = .ok (.getfield 11, 3) := by decide +kernel
theorem dX6_addClause_28 : decode cX6_addClause 28 = .ok (.iconst 0, 1) := by decide +kernel
theorem dX6_addClause_29 : decode cX6_addClause 29 = .ok (.iload_n 3, 1) := by decide +kernel
theorem dX6_addClause_30 : decode cX6_addClause 30 = .ok (.iconst 1, 1) := by decide +kernel
theorem dX6_addClause_31 : decode cX6_addClause 31 = .ok (.iadd, 1) := by decide +kernel
theorem dX6_addClause_32 : decode cX6_addClause 32 = .ok (.iastore, 1) := by decide +kernel
theorem dX6_addClause_33 : decode cX6_addClause 33 = .ok (.aload_n 0, 1) := by decide +kernel
theorem dX6_addClause_34 : decode cX6_addClause 34 = .ok (.iload_n 3, 1) := by decide +kernel
theorem dX6_addClause_35 : decode cX6_addClause 35 = .ok (.bipush (-9), 2) := by decide +kernel
theorem dX6_addClause_37 : decode cX6_addClause 37 = .ok (.bipush (-9), 2) := by decide +kernel
theorem dX6_addClause_39 : decode cX6_addClause 39 = .ok (.bipush (-9), 2) := by decide +kernel
theorem dX6_addClause_41 : decode cX6_addClause 41 = .ok (.invokevirtual 44, 3) := by decide +kernel
theorem dX6_addClause_44 : decode cX6_addClause 44 = .ok (.return_, 1) := by decide +kernel
theorem dX6_addSaying_0 : decode cX6_addSaying 0 = .ok (.aload_n 0, 1) := by decide +kernel
theorem dX6_addSaying_1 : decode cX6_addSaying 1 = .ok (.bipush (-9), 2) := by decide +kernel
theorem dX6_addSaying_3 : decode cX6_addSaying 3 = .ok (.iload_n 1, 1) := by decide +kernel
theorem dX6_addSaying_4 : decode cX6_addSaying 4 = .ok (.iload_n 2, 1) := by decide +kernel
theorem dX6_addSaying_5 : decode cX6_addSaying 5 = .ok (.iload_n 3, 1) := by decide +kernel
theorem dX6_addSaying_6 : decode cX6_addSaying 6 = .ok (.invokevirtual 44, 3) := by decide +kernel
theorem dX6_addSaying_9 : decode cX6_addSaying 9 = .ok (.return_, 1) := by decide +kernel
theorem dX6_addStatement_0 : decode cX6_addStatement 0 = .ok (.aload_n 0, 1) := by decide +kernel
theorem dX6_addStatement_1 : decode cX6_addStatement 1 = .ok (.invokevirtual 19, 3) := by decide +kernel
theorem dX6_addStatement_4 : decode cX6_addStatement 4 = .ok (.istore 5, 2) := by decide +kernel
theorem dX6_addStatement_6 : decode cX6_addStatement 6 = .ok (.iload 5, 2) := by decide +kernel
theorem dX6_addStatement_8 : decode cX6_addStatement 8 = .ok (.ifCond .lt 10, 3) := by decide +kernel
theorem dX6_addStatement_11 : decode cX6_addStatement 11 = .ok (.iload 5, 2) := by decide +kernel
theorem dX6_addStatement_13 : decode cX6_addStatement 13 = .ok (.bipush 14, 2) := by decide +kernel
theorem dX6_addStatement_15 : decode cX6_addStatement 15 = .ok (.if_icmp .lt 4, 3) := by decide +kernel
theorem dX6_addStatement_18 : decode cX6_addStatement 18 = .ok (.return_, 1) := by decide +kernel
theorem dX6_addStatement_19 : decode cX6_addStatement 19 = .ok (.aload_n 0, 1) := by decide +kernel
theorem dX6_addStatement_20 : decode cX6_addStatement 20 = .ok (.getfield 11, 3) := by decide +kernel
theorem dX6_addStatement_23 : decode cX6_addStatement 23 = .ok (.bipush 18, 2) := by decide +kernel
theorem dX6_addStatement_25 : decode cX6_addStatement 25 = .ok (.iload 5, 2) := by decide +kernel
theorem dX6_addStatement_27 : decode cX6_addStatement 27 = .ok (.iadd, 1) := by decide +kernel
theorem dX6_addStatement_28 : decode cX6_addStatement 28 = .ok (.iload_n 1, 1) := by decide +kernel
theorem dX6_addStatement_29 : decode cX6_addStatement 29 = .ok (.iastore, 1) := by decide +kernel
theorem dX6_addStatement_30 : decode cX6_addStatement 30 = .ok (.aload_n 0, 1) := by decide +kernel
theorem dX6_addStatement_31 : decode cX6_addStatement 31 = .ok (.getfield 11, 3) := by decide +kernel
theorem dX6_addStatement_34 : decode cX6_addStatement 34 = .ok (.bipush 32, 2) := by decide +kernel
theorem dX6_addStatement_36 : decode cX6_addStatement 36 = .ok (.iload 5, 2) := by decide +kernel
theorem dX6_addStatement_38 : decode cX6_addStatement 38 = .ok (.iadd, 1) := by decide +kernel
theorem dX6_addStatement_39 : decode cX6_addStatement 39 = .ok (.iload_n 2, 1) := by decide +kernel
theorem dX6_addStatement_40 : decode cX6_addStatement 40 = .ok (.iastore, 1) := by decide +kernel
theorem dX6_addStatement_41 : decode cX6_addStatement 41 = .ok (.aload_n 0, 1) := by decide +kernel
theorem dX6_addStatement_42 : decode cX6_addStatement 42 = .ok (.getfield 11, 3) := by decide +kernel
theorem dX6_addStatement_45 : decode cX6_addStatement 45 = .ok (.bipush 46, 2) := by decide +kernel
theorem dX6_addStatement_47 : decode cX6_addStatement 47 = .ok (.iload 5, 2) := by decide +kernel
theorem dX6_addStatement_49 : decode cX6_addStatement 49 = .ok (.iadd, 1) := by decide +kernel
theorem dX6_addStatement_50 : decode cX6_addStatement 50 = .ok (.iload_n 3, 1) := by decide +kernel
theorem dX6_addStatement_51 : decode cX6_addStatement 51 = .ok (.iastore, 1) := by decide +kernel
theorem dX6_addStatement_52 : decode cX6_addStatement 52 = .ok (.aload_n 0, 1) := by decide +kernel
theorem dX6_addStatement_53 : decode cX6_addStatement 53 = .ok (.getfield 11, 3) := by decide +kernel
theorem dX6_addStatement_56 : decode cX6_addStatement 56 = .ok (.bipush 60, 2) := by decide +kernel
theorem dX6_addStatement_58 : decode cX6_addStatement 58 = .ok (.iload 5, 2) := by decide +kernel
theorem dX6_addStatement_60 : decode cX6_addStatement 60 = .ok (.iadd, 1) := by decide +kernel
theorem dX6_addStatement_61 : decode cX6_addStatement 61 = .ok (.iload 4, 2) := by decide +kernel
theorem dX6_addStatement_63 : decode cX6_addStatement 63 = .ok (.iastore, 1) := by decide +kernel
theorem dX6_addStatement_64 : decode cX6_addStatement 64 = .ok (.aload_n 0, 1) := by decide +kernel
theorem dX6_addStatement_65 : decode cX6_addStatement 65 = .ok (.getfield 11, 3) := by decide +kernel
theorem dX6_addStatement_68 : decode cX6_addStatement 68 = .ok (.iconst 1, 1) := by decide +kernel
theorem dX6_addStatement_69 : decode cX6_addStatement 69 = .ok (.iload 5, 2) := by decide +kernel
theorem dX6_addStatement_71 : decode cX6_addStatement 71 = .ok (.iconst 1, 1) := by decide +kernel
theorem dX6_addStatement_72 : decode cX6_addStatement 72 = .ok (.iadd, 1) := by decide +kernel
theorem dX6_addStatement_73 : decode cX6_addStatement 73 = .ok (.iastore, 1) := by decide +kernel
theorem dX6_addStatement_74 : decode cX6_addStatement 74 = .ok (.return_, 1) := by decide +kernel
theorem dX6_removeSaying_0 : decode cX6_removeSaying 0 = .ok (.iload_n 1, 1) := by decide +kernel
theorem dX6_removeSaying_1 : decode cX6_removeSaying 1 = .ok (.ifCond .lt 11, 3) := by decide +kernel
theorem dX6_removeSaying_4 : decode cX6_removeSaying 4 = .ok (.iload_n 1, 1) := by decide +kernel
theorem dX6_removeSaying_5 : decode cX6_removeSaying 5 = .ok (.aload_n 0, 1) := by decide +kernel
theorem dX6_removeSaying_6 : decode cX6_removeSaying 6 = .ok (.invokevirtual 19, 3) := by decide +kernel
theorem dX6_removeSaying_9 : decode cX6_removeSaying 9 = .ok (.if_icmp .lt 4, 3) := by decide +kernel
theorem dX6_removeSaying_12 : decode cX6_removeSaying 12 = .ok (.return_, 1) := by decide +kernel
theorem dX6_removeSaying_13 : decode cX6_removeSaying 13 = .ok (.iload_n 1, 1) := by decide +kernel
theorem dX6_removeSaying_14 : decode cX6_removeSaying 14 = .ok (.istore_n 2, 1) := by decide +kernel
theorem dX6_removeSaying_15 : decode cX6_removeSaying 15 = .ok (.iload_n 2, 1) := by decide +kernel
theorem dX6_removeSaying_16 : decode cX6_removeSaying 16 = .ok (.iconst 1, 1) := by decide +kernel
theorem dX6_removeSaying_17 : decode cX6_removeSaying 17 = .ok (.iadd, 1) := by decide +kernel
theorem dX6_removeSaying_18 : decode cX6_removeSaying 18 = .ok (.bipush 14, 2) := by decide +kernel
theorem dX6_removeSaying_20 : decode cX6_removeSaying 20 = .ok (.if_icmp .ge 89, 3) := by decide +kernel
theorem dX6_removeSaying_23 : decode cX6_removeSaying 23 = .ok (.aload_n 0, 1) := by decide +kernel
theorem dX6_removeSaying_24 : decode cX6_removeSaying 24 = .ok (.getfield 11, 3) := by decide +kernel
theorem dX6_removeSaying_27 : decode cX6_removeSaying 27 = .ok (.bipush 18, 2) := by decide +kernel
theorem dX6_removeSaying_29 : decode cX6_removeSaying 29 = .ok (.iload_n 2, 1) := by decide +kernel
theorem dX6_removeSaying_30 : decode cX6_removeSaying 30 = .ok (.iadd, 1) := by decide +kernel
theorem dX6_removeSaying_31 : decode cX6_removeSaying 31 = .ok (.aload_n 0, 1) := by decide +kernel
theorem dX6_removeSaying_32 : decode cX6_removeSaying 32 = .ok (.getfield 11, 3) := by decide +kernel
theorem dX6_removeSaying_35 : decode cX6_removeSaying 35 = .ok (.bipush 18, 2) := by decide +kernel
theorem dX6_removeSaying_37 : decode cX6_removeSaying 37 = .ok (.iload_n 2, 1) := by decide +kernel
theorem dX6_removeSaying_38 : decode cX6_removeSaying 38 = .ok (.iadd, 1) := by decide +kernel
theorem dX6_removeSaying_39 : decode cX6_removeSaying 39 = .ok (.iconst 1, 1) := by decide +kernel
theorem dX6_removeSaying_40 : decode cX6_removeSaying 40 = .ok (.iadd, 1) := by decide +kernel
theorem dX6_removeSaying_41 : decode cX6_removeSaying 41 = .ok (.iaload, 1) := by decide +kernel
theorem dX6_removeSaying_42 : decode cX6_removeSaying 42 = .ok (.iastore, 1) := by decide +kernel
theorem dX6_removeSaying_43 : decode cX6_removeSaying 43 = .ok (.aload_n 0, 1) := by decide +kernel
theorem dX6_removeSaying_44 : decode cX6_removeSaying 44 = .ok (.getfield 11, 3) := by decide +kernel
theorem dX6_removeSaying_47 : decode cX6_removeSaying 47 = .ok (.bipush 32, 2) := by decide +kernel
theorem dX6_removeSaying_49 : decode cX6_removeSaying 49 = .ok (.iload_n 2, 1) := by decide +kernel
theorem dX6_removeSaying_50 : decode cX6_removeSaying 50 = .ok (.iadd, 1) := by decide +kernel
theorem dX6_removeSaying_51 : decode cX6_removeSaying 51 = .ok (.aload_n 0, 1) := by decide +kernel
theorem dX6_removeSaying_52 : decode cX6_removeSaying 52 = .ok (.getfield 11, 3) := by decide +kernel
theorem dX6_removeSaying_55 : decode cX6_removeSaying 55 = .ok (.bipush 32, 2) := by decide +kernel
theorem dX6_removeSaying_57 : decode cX6_removeSaying 57 = .ok (.iload_n 2, 1) := by decide +kernel
theorem dX6_removeSaying_58 : decode cX6_removeSaying 58 = .ok (.iadd, 1) := by decide +kernel
theorem dX6_removeSaying_59 : decode cX6_removeSaying 59 = .ok (.iconst 1, 1) := by decide +kernel
theorem dX6_removeSaying_60 : decode cX6_removeSaying 60 = .ok (.iadd, 1) := by decide +kernel
theorem dX6_removeSaying_61 : decode cX6_removeSaying 61 = .ok (.iaload, 1) := by decide +kernel
theorem dX6_removeSaying_62 : decode cX6_removeSaying 62 = .ok (.iastore, 1) := by decide +kernel
theorem dX6_removeSaying_63 : decode cX6_removeSaying 63 = .ok (.aload_n 0, 1) := by decide +kernel
theorem dX6_removeSaying_64 : decode cX6_removeSaying 64 = .ok (.getfield 11, 3) := by decide +kernel
theorem dX6_removeSaying_67 : decode cX6_removeSaying 67 = .ok (.bipush 46, 2) := by decide +kernel
theorem dX6_removeSaying_69 : decode cX6_removeSaying 69 = .ok (.iload_n 2, 1) := by decide +kernel
theorem dX6_removeSaying_70 : decode cX6_removeSaying 70 = .ok (.iadd, 1) := by decide +kernel
theorem dX6_removeSaying_71 : decode cX6_removeSaying 71 = .ok (.aload_n 0, 1) := by decide +kernel
theorem dX6_removeSaying_72 : decode cX6_removeSaying 72 = .ok (.getfield 11, 3) := by decide +kernel
theorem dX6_removeSaying_75 : decode cX6_removeSaying 75 = .ok (.bipush 46, 2) := by decide +kernel
theorem dX6_removeSaying_77 : decode cX6_removeSaying 77 = .ok (.iload_n 2, 1) := by decide +kernel
theorem dX6_removeSaying_78 : decode cX6_removeSaying 78 = .ok (.iadd, 1) := by decide +kernel
theorem dX6_removeSaying_79 : decode cX6_removeSaying 79 = .ok (.iconst 1, 1) := by decide +kernel
theorem dX6_removeSaying_80 : decode cX6_removeSaying 80 = .ok (.iadd, 1) := by decide +kernel
theorem dX6_removeSaying_81 : decode cX6_removeSaying 81 = .ok (.iaload, 1) := by decide +kernel
theorem dX6_removeSaying_82 : decode cX6_removeSaying 82 = .ok (.iastore, 1) := by decide +kernel
theorem dX6_removeSaying_83 : decode cX6_removeSaying 83 = .ok (.aload_n 0, 1) := by decide +kernel
theorem dX6_removeSaying_84 : decode cX6_removeSaying 84 = .ok (.getfield 11, 3) := by decide +kernel
theorem dX6_removeSaying_87 : decode cX6_removeSaying 87 = .ok (.bipush 60, 2) := by decide +kernel
theorem dX6_removeSaying_89 : decode cX6_removeSaying 89 = .ok (.iload_n 2, 1) := by decide +kernel
theorem dX6_removeSaying_90 : decode cX6_removeSaying 90 = .ok (.iadd, 1) := by decide +kernel
theorem dX6_removeSaying_91 : decode cX6_removeSaying 91 = .ok (.aload_n 0, 1) := by decide +kernel
theorem dX6_removeSaying_92 : decode cX6_removeSaying 92 = .ok (.getfield 11, 3) := by decide +kernel
theorem dX6_removeSaying_95 : decode cX6_removeSaying 95 = .ok (.bipush 60, 2) := by decide +kernel
theorem dX6_removeSaying_97 : decode cX6_removeSaying 97 = .ok (.iload_n 2, 1) := by decide +kernel
theorem dX6_removeSaying_98 : decode cX6_removeSaying 98 = .ok (.iadd, 1) := by decide +kernel
theorem dX6_removeSaying_99 : decode cX6_removeSaying 99 = .ok (.iconst 1, 1) := by decide +kernel
theorem dX6_removeSaying_100 : decode cX6_removeSaying 100 = .ok (.iadd, 1) := by decide +kernel
theorem dX6_removeSaying_101 : decode cX6_removeSaying 101 = .ok (.iaload, 1) := by decide +kernel
theorem dX6_removeSaying_102 : decode cX6_removeSaying 102 = .ok (.iastore, 1) := by decide +kernel
theorem dX6_removeSaying_103 : decode cX6_removeSaying 103 = .ok (.iinc 2 1, 3) := by decide +kernel
theorem dX6_removeSaying_106 : decode cX6_removeSaying 106 = .ok (.goto (-91), 3) := by decide +kernel
theorem dX6_removeSaying_109 : decode cX6_removeSaying 109 = .ok (.aload_n 0, 1) := by decide +kernel
theorem dX6_removeSaying_110 : decode cX6_removeSaying 110 = .ok (.getfield 11, 3) := by decide +kernel
theorem dX6_removeSaying_113 : decode cX6_removeSaying 113 = .ok (.iconst 1, 1) := by decide +kernel
theorem dX6_removeSaying_114 : decode cX6_removeSaying 114 = .ok (.aload_n 0, 1) := by decide +kernel
theorem dX6_removeSaying_115 : decode cX6_removeSaying 115 = .ok (.invokevirtual 19, 3) := by decide +kernel
theorem dX6_removeSaying_118 : decode cX6_removeSaying 118 = .ok (.iconst 1, 1) := by decide +kernel
theorem dX6_removeSaying_119 : decode cX6_removeSaying 119 = .ok (.isub, 1) := by decide +kernel
theorem dX6_removeSaying_120 : decode cX6_removeSaying 120 = .ok (.iastore, 1) := by decide +kernel
theorem dX6_removeSaying_121 : decode cX6_removeSaying 121 = .ok (.return_, 1) := by decide +kernel
theorem dX6_tellOne_0 : decode cX6_tellOne 0 = .ok (.aload_n 0, 1) := by decide +kernel
theorem dX6_tellOne_1 : decode cX6_tellOne 1 = .ok (.iload_n 1, 1) := by decide +kernel
theorem dX6_tellOne_2 : decode cX6_tellOne 2 = .ok (.invokevirtual 30, 3) := by decide +kernel
theorem dX6_tellOne_5 : decode cX6_tellOne 5 = .ok (.istore_n 3, 1) := by decide +kernel
theorem dX6_tellOne_6 : decode cX6_tellOne 6 = .ok (.iload_n 3, 1) := by decide +kernel
theorem dX6_tellOne_7 : decode cX6_tellOne 7 = .ok (.bipush (-9), 2) := by decide +kernel
theorem dX6_tellOne_9 : decode cX6_tellOne 9 = .ok (.if_icmp .ne 23, 3) := by decide +kernel
theorem dX6_tellOne_12 : decode cX6_tellOne 12 = .ok (.aload_n 2, 1) := by decide +kernel
theorem dX6_tellOne_13 : decode cX6_tellOne 13 = .ok (.aload_n 0, 1) := by decide +kernel
theorem dX6_tellOne_14 : decode cX6_tellOne 14 = .ok (.iload_n 1, 1) := by decide +kernel
theorem dX6_tellOne_15 : decode cX6_tellOne 15 = .ok (.invokevirtual 48, 3) := by decide +kernel
theorem dX6_tellOne_18 : decode cX6_tellOne 18 = .ok (.aload_n 0, 1) := by decide +kernel
theorem dX6_tellOne_19 : decode cX6_tellOne 19 = .ok (.iload_n 1, 1) := by decide +kernel
theorem dX6_tellOne_20 : decode cX6_tellOne 20 = .ok (.invokevirtual 51, 3) := by decide +kernel
theorem dX6_tellOne_23 : decode cX6_tellOne 23 = .ok (.aload_n 0, 1) := by decide +kernel
theorem dX6_tellOne_24 : decode cX6_tellOne 24 = .ok (.iload_n 1, 1) := by decide +kernel
theorem dX6_tellOne_25 : decode cX6_tellOne 25 = .ok (.invokevirtual 54, 3) := by decide +kernel
theorem dX6_tellOne_28 : decode cX6_tellOne 28 = .ok (.invokevirtual 57, 3) := by decide +kernel
theorem dX6_tellOne_31 : decode cX6_tellOne 31 = .ok (.return_, 1) := by decide +kernel
theorem dX6_tellOne_32 : decode cX6_tellOne 32 = .ok (.aload_n 0, 1) := by decide +kernel
theorem dX6_tellOne_33 : decode cX6_tellOne 33 = .ok (.iload_n 3, 1) := by decide +kernel
theorem dX6_tellOne_34 : decode cX6_tellOne 34 = .ok (.invokevirtual 63, 3) := by decide +kernel
theorem dX6_tellOne_37 : decode cX6_tellOne 37 = .ok (.istore 4, 2) := by decide +kernel
theorem dX6_tellOne_39 : decode cX6_tellOne 39 = .ok (.iload 4, 2) := by decide +kernel
theorem dX6_tellOne_41 : decode cX6_tellOne 41 = .ok (.ifCond .lt 10, 3) := by decide +kernel
theorem dX6_tellOne_44 : decode cX6_tellOne 44 = .ok (.iload 4, 2) := by decide +kernel
theorem dX6_tellOne_46 : decode cX6_tellOne 46 = .ok (.bipush 8, 2) := by decide +kernel
theorem dX6_tellOne_48 : decode cX6_tellOne 48 = .ok (.if_icmp .lt 4, 3) := by decide +kernel
theorem dX6_tellOne_51 : decode cX6_tellOne 51 = .ok (.return_, 1) := by decide +kernel
theorem dX6_tellOne_52 : decode cX6_tellOne 52 = .ok (.aload_n 2, 1) := by decide +kernel
theorem dX6_tellOne_53 : decode cX6_tellOne 53 = .ok (.iload_n 3, 1) := by decide +kernel
theorem dX6_tellOne_54 : decode cX6_tellOne 54 = .ok (.invokestatic 66, 3) := by decide +kernel
theorem dX6_tellOne_57 : decode cX6_tellOne 57 = .ok (.getstatic 69, 3) := by decide +kernel
theorem dX6_tellOne_60 : decode cX6_tellOne 60 = .ok (.iload 4, 2) := by decide +kernel
theorem dX6_tellOne_62 : decode cX6_tellOne 62 = .ok (.iaload, 1) := by decide +kernel
theorem dX6_tellOne_63 : decode cX6_tellOne 63 = .ok (.iload_n 3, 1) := by decide +kernel
theorem dX6_tellOne_64 : decode cX6_tellOne 64 = .ok (.invokestatic 72, 3) := by decide +kernel
theorem dX6_tellOne_67 : decode cX6_tellOne 67 = .ok (.invokevirtual 57, 3) := by decide +kernel
theorem dX6_tellOne_70 : decode cX6_tellOne 70 = .ok (.aload_n 2, 1) := by decide +kernel
theorem dX6_tellOne_71 : decode cX6_tellOne 71 = .ok (.iload_n 3, 1) := by decide +kernel
theorem dX6_tellOne_72 : decode cX6_tellOne 72 = .ok (.invokestatic 72, 3) := by decide +kernel
theorem dX6_tellOne_75 : decode cX6_tellOne 75 = .ok (.getstatic 75, 3) := by decide +kernel
theorem dX6_tellOne_78 : decode cX6_tellOne 78 = .ok (.iload 4, 2) := by decide +kernel
theorem dX6_tellOne_80 : decode cX6_tellOne 80 = .ok (.iaload, 1) := by decide +kernel
theorem dX6_tellOne_81 : decode cX6_tellOne 81 = .ok (.iconst 0, 1) := by decide +kernel
theorem dX6_tellOne_82 : decode cX6_tellOne 82 = .ok (.invokevirtual 57, 3) := by decide +kernel
theorem dX6_tellOne_85 : decode cX6_tellOne 85 = .ok (.iload_n 3, 1) := by decide +kernel
theorem dX6_tellOne_86 : decode cX6_tellOne 86 = .ok (.ifCond .le 22, 3) := by decide +kernel
theorem dX6_tellOne_89 : decode cX6_tellOne 89 = .ok (.aload_n 2, 1) := by decide +kernel
theorem dX6_tellOne_90 : decode cX6_tellOne 90 = .ok (.iload_n 3, 1) := by decide +kernel
theorem dX6_tellOne_91 : decode cX6_tellOne 91 = .ok (.iconst 1, 1) := by decide +kernel
theorem dX6_tellOne_92 : decode cX6_tellOne 92 = .ok (.isub, 1) := by decide +kernel
theorem dX6_tellOne_93 : decode cX6_tellOne 93 = .ok (.invokestatic 72, 3) := by decide +kernel
theorem dX6_tellOne_96 : decode cX6_tellOne 96 = .ok (.aload_n 0, 1) := by decide +kernel
theorem dX6_tellOne_97 : decode cX6_tellOne 97 = .ok (.iload_n 3, 1) := by decide +kernel
theorem dX6_tellOne_98 : decode cX6_tellOne 98 = .ok (.invokevirtual 78, 3) := by decide +kernel
theorem dX6_tellOne_101 : decode cX6_tellOne 101 = .ok (.iload_n 3, 1) := by decide +kernel
theorem dX6_tellOne_102 : decode cX6_tellOne 102 = .ok (.invokestatic 72, 3) := by decide +kernel
theorem dX6_tellOne_105 : decode cX6_tellOne 105 = .ok (.invokevirtual 57, 3) := by decide +kernel
theorem dX6_tellOne_108 : decode cX6_tellOne 108 = .ok (.return_, 1) := by decide +kernel
theorem dX7_init_0 : decode cX7_init 0 = .ok (.aload_n 0, 1) := by decide +kernel
theorem dX7_init_1 : decode cX7_init 1 = .ok (.invokespecial 3, 3) := by decide +kernel
theorem dX7_init_4 : decode cX7_init 4 = .ok (.aload_n 0, 1) := by decide +kernel
theorem dX7_init_5 : decode cX7_init 5 = .ok (.bipush 80, 2) := by decide +kernel
theorem dX7_init_7 : decode cX7_init 7 = .ok (.newarray .int, 2) := by decide +kernel
theorem dX7_init_9 : decode cX7_init 9 = .ok (.putfield 9, 3) := by decide +kernel
theorem dX7_init_12 : decode cX7_init 12 = .ok (.return_, 1) := by decide +kernel
theorem dX7_size_0 : decode cX7_size 0 = .ok (.aload_n 0, 1) := by decide +kernel
theorem dX7_size_1 : decode cX7_size 1 = .ok (.getfield 15, 3) := by decide +kernel
theorem dX7_size_4 : decode cX7_size 4 = .ok (.ireturn, 1) := by decide +kernel
theorem dX7_empty_0 : decode cX7_empty 0 = .ok (.aload_n 0, 1) := by decide +kernel
theorem dX7_empty_1 : decode cX7_empty 1 = .ok (.iconst 0, 1) := by decide +kernel
theorem dX7_empty_2 : decode cX7_empty 2 = .ok (.putfield 15, 3) := by decide +kernel
theorem dX7_empty_5 : decode cX7_empty 5 = .ok (.return_, 1) := by decide +kernel
theorem dX7_append_0 : decode cX7_append 0 = .ok (.aload_n 0, 1) := by decide +kernel
theorem dX7_append_1 : decode cX7_append 1 = .ok (.getfield 15, 3) := by decide +kernel
theorem dX7_append_4 : decode cX7_append 4 = .ok (.ifCond .lt 15, 3) := by decide +kernel
theorem dX7_append_7 : decode cX7_append 7 = .ok (.aload_n 0, 1) := by decide +kernel
theorem dX7_append_8 : decode cX7_append 8 = .ok (.getfield 15, 3) := by decide +kernel
theorem dX7_append_11 : decode cX7_append 11 = .ok (.aload_n 0, 1) := by decide +kernel
theorem dX7_append_12 : decode cX7_append 12 = .ok (.getfield 9, 3) := by decide +kernel
theorem dX7_append_15 : decode cX7_append 15 = .ok (.arraylength, 1) := by decide +kernel
theorem dX7_append_16 : decode cX7_append 16 = .ok (.if_icmp .lt 5, 3) := by decide +kernel
theorem dX7_append_19 : decode cX7_append 19 = .ok (.iconst 0, 1) := by decide +kernel
theorem dX7_append_20 : decode cX7_append 20 = .ok (.ireturn, 1) := by decide +kernel
theorem dX7_append_21 : decode cX7_append 21 = .ok (.aload_n 0, 1) := by decide +kernel
theorem dX7_append_22 : decode cX7_append 22 = .ok (.getfield 9, 3) := by decide +kernel
theorem dX7_append_25 : decode cX7_append 25 = .ok (.aload_n 0, 1) := by decide +kernel
theorem dX7_append_26 : decode cX7_append 26 = .ok (.getfield 15, 3) := by decide +kernel
theorem dX7_append_29 : decode cX7_append 29 = .ok (.iload_n 1, 1) := by decide +kernel
theorem dX7_append_30 : decode cX7_append 30 = .ok (.iastore, 1) := by decide +kernel
theorem dX7_append_31 : decode cX7_append 31 = .ok (.aload_n 0, 1) := by decide +kernel
theorem dX7_append_32 : decode cX7_append 32 = .ok (.dup, 1) := by decide +kernel
theorem dX7_append_33 : decode cX7_append 33 = .ok (.getfield 15, 3) := by decide +kernel
theorem dX7_append_36 : decode cX7_append 36 = .ok (.iconst 1, 1) := by decide +kernel
theorem dX7_append_37 : decode cX7_append 37 = .ok (.iadd, 1) := by decide +kernel
theorem dX7_append_38 : decode cX7_append 38 = .ok (.putfield 15, 3) := by decide +kernel
theorem dX7_append_41 : decode cX7_append 41 = .ok (.iconst 1, 1) := by decide +kernel
theorem dX7_append_42 : decode cX7_append 42 = .ok (.ireturn, 1) := by decide +kernel
theorem dX7_readInto_0 : decode cX7_readInto 0 = .ok (.aload_n 1, 1) := by decide +kernel
theorem dX7_readInto_1 : decode cX7_readInto 1 = .ok (.invokevirtual 19, 3) := by decide +kernel
theorem dX7_readInto_4 : decode cX7_readInto 4 = .ok (.aload_n 0, 1) := by decide +kernel
theorem dX7_readInto_5 : decode cX7_readInto 5 = .ok (.iconst 0, 1) := by decide +kernel
theorem dX7_readInto_6 : decode cX7_readInto 6 = .ok (.putfield 24, 3) := by decide +kernel
theorem dX7_readInto_9 : decode cX7_readInto 9 = .ok (.iconst 0, 1) := by decide +kernel
theorem dX7_readInto_10 : decode cX7_readInto 10 = .ok (.istore_n 2, 1) := by decide +kernel
theorem dX7_readInto_11 : decode cX7_readInto 11 = .ok (.iload_n 2, 1) := by decide +kernel
theorem dX7_readInto_12 : decode cX7_readInto 12 = .ok (.aload_n 0, 1) := by decide +kernel
theorem dX7_readInto_13 : decode cX7_readInto 13 = .ok (.getfield 15, 3) := by decide +kernel
theorem dX7_readInto_16 : decode cX7_readInto 16 = .ok (.if_icmp .ge 45, 3) := by decide +kernel
theorem dX7_readInto_19 : decode cX7_readInto 19 = .ok (.iload_n 2, 1) := by decide +kernel
theorem dX7_readInto_20 : decode cX7_readInto 20 = .ok (.aload_n 0, 1) := by decide +kernel
theorem dX7_readInto_21 : decode cX7_readInto 21 = .ok (.getfield 9, 3) := by decide +kernel
theorem dX7_readInto_24 : decode cX7_readInto 24 = .ok (.arraylength, 1) := by decide +kernel
theorem dX7_readInto_25 : decode cX7_readInto 25 = .ok (.if_icmp .ge 36, 3) := by decide +kernel
theorem dX7_readInto_28 : decode cX7_readInto 28 = .ok (.aload_n 0, 1) := by decide +kernel
theorem dX7_readInto_29 : decode cX7_readInto 29 = .ok (.getfield 9, 3) := by decide +kernel
theorem dX7_readInto_32 : decode cX7_readInto 32 = .ok (.iload_n 2, 1) := by decide +kernel
theorem dX7_readInto_33 : decode cX7_readInto 33 = .ok (.iaload, 1) := by decide +kernel
theorem dX7_readInto_34 : decode cX7_readInto 34 = .ok (.bipush 32, 2) := by decide +kernel
theorem dX7_readInto_36 : decode cX7_readInto 36 = .ok (.if_icmp .eq 19, 3) := by decide +kernel
theorem dX7_readInto_39 : decode cX7_readInto 39 = .ok (.aload_n 0, 1) := by decide +kernel
theorem dX7_readInto_40 : decode cX7_readInto 40 = .ok (.aload_n 0, 1) := by decide +kernel
theorem dX7_readInto_41 : decode cX7_readInto 41 = .ok (.getfield 9, 3) := by decide +kernel
theorem dX7_readInto_44 : decode cX7_readInto 44 = .ok (.iload_n 2, 1) := by decide +kernel
theorem dX7_readInto_45 : decode cX7_readInto 45 = .ok (.iaload, 1) := by decide +kernel
theorem dX7_readInto_46 : decode cX7_readInto 46 = .ok (.aload_n 1, 1) := by decide +kernel
theorem dX7_readInto_47 : decode cX7_readInto 47 = .ok (.invokevirtual 27, 3) := by decide +kernel
theorem dX7_readInto_50 : decode cX7_readInto 50 = .ok (.ifCond .ne 5, 3) := by decide +kernel
theorem dX7_readInto_53 : decode cX7_readInto 53 = .ok (.iload_n 2, 1) := by decide +kernel
theorem dX7_readInto_54 : decode cX7_readInto 54 = .ok (.ireturn, 1) := by decide +kernel
theorem dX7_readInto_55 : decode cX7_readInto 55 = .ok (.iinc 2 1, 3) := by decide +kernel
theorem dX7_readInto_58 : decode cX7_readInto 58 = .ok (.goto (-47), 3) := by decide +kernel
theorem dX7_readInto_61 : decode cX7_readInto 61 = .ok (.aload_n 0, 1) := by decide +kernel
theorem dX7_readInto_62 : decode cX7_readInto 62 = .ok (.getfield 24, 3) := by decide +kernel
theorem dX7_readInto_65 : decode cX7_readInto 65 = .ok (.ifCond .ne 8, 3) := by decide +kernel
theorem dX7_readInto_68 : decode cX7_readInto 68 = .ok (.bipush (-9), 2) := by decide +kernel
theorem dX7_readInto_70 : decode cX7_readInto 70 = .ok (.goto 7, 3) := by decide +kernel
theorem dX7_readInto_73 : decode cX7_readInto 73 = .ok (.aload_n 0, 1) := by decide +kernel
theorem dX7_readInto_74 : decode cX7_readInto 74 = .ok (.getfield 15, 3) := by decide +kernel
theorem dX7_readInto_77 : decode cX7_readInto 77 = .ok (.ireturn, 1) := by decide +kernel
theorem dX7_passes_0 : decode cX7_passes 0 = .ok (.aload_n 0, 1) := by decide +kernel
theorem dX7_passes_1 : decode cX7_passes 1 = .ok (.getfield 24, 3) := by decide +kernel
theorem dX7_passes_4 : decode cX7_passes 4 = .ok (.tableswitch 58 0 3 #[32, 39, 45, 51], 32) := by decide +kernel
theorem dX7_passes_36 : decode cX7_passes 36 = .ok (.aload_n 0, 1) := by decide +kernel
theorem dX7_passes_37 : decode cX7_passes 37 = .ok (.iload_n 1, 1) := by decide +kernel
theorem dX7_passes_38 : decode cX7_passes 38 = .ok (.aload_n 2, 1) := by decide +kernel
theorem dX7_passes_39 : decode cX7_passes 39 = .ok (.invokevirtual 31, 3) := by decide +kernel
theorem dX7_passes_42 : decode cX7_passes 42 = .ok (.ireturn, 1) := by decide +kernel
theorem dX7_passes_43 : decode cX7_passes 43 = .ok (.aload_n 0, 1) := by decide +kernel
theorem dX7_passes_44 : decode cX7_passes 44 = .ok (.iload_n 1, 1) := by decide +kernel
theorem dX7_passes_45 : decode cX7_passes 45 = .ok (.invokevirtual 34, 3) := by decide +kernel
theorem dX7_passes_48 : decode cX7_passes 48 = .ok (.ireturn, 1) := by decide +kernel
theorem dX7_passes_49 : decode cX7_passes 49 = .ok (.aload_n 0, 1) := by decide +kernel
theorem dX7_passes_50 : decode cX7_passes 50 = .ok (.iload_n 1, 1) := by decide +kernel
theorem dX7_passes_51 : decode cX7_passes 51 = .ok (.invokevirtual 38, 3) := by decide +kernel
theorem dX7_passes_54 : decode cX7_passes 54 = .ok (.ireturn, 1) := by decide +kernel
theorem dX7_passes_55 : decode cX7_passes 55 = .ok (.aload_n 0, 1) := by decide +kernel
theorem dX7_passes_56 : decode cX7_passes 56 = .ok (.iload_n 1, 1) := by decide +kernel
theorem dX7_passes_57 : decode cX7_passes 57 = .ok (.aload_n 2, 1) := by decide +kernel
theorem dX7_passes_58 : decode cX7_passes 58 = .ok (.invokevirtual 41, 3) := by decide +kernel
theorem dX7_passes_61 : decode cX7_passes 61 = .ok (.ireturn, 1) := by decide +kernel
theorem dX7_passes_62 : decode cX7_passes 62 = .ok (.aload_n 0, 1) := by decide +kernel
theorem dX7_passes_63 : decode cX7_passes 63 = .ok (.iload_n 1, 1) := by decide +kernel
theorem dX7_passes_64 : decode cX7_passes 64 = .ok (.aload_n 2, 1) := by decide +kernel
theorem dX7_passes_65 : decode cX7_passes 65 = .ok (.invokevirtual 44, 3) := by decide +kernel
theorem dX7_passes_68 : decode cX7_passes 68 = .ok (.ireturn, 1) := by decide +kernel
theorem dX7_beginsItem_0 : decode cX7_beginsItem 0 = .ok (.aload_n 0, 1) := by decide +kernel
theorem dX7_beginsItem_1 : decode cX7_beginsItem 1 = .ok (.iload_n 1, 1) := by decide +kernel
theorem dX7_beginsItem_2 : decode cX7_beginsItem 2 = .ok (.aload_n 2, 1) := by decide +kernel
theorem dX7_beginsItem_3 : decode cX7_beginsItem 3 = .ok (.invokevirtual 47, 3) := by decide +kernel
theorem dX7_beginsItem_6 : decode cX7_beginsItem 6 = .ok (.ifCond .eq 5, 3) := by decide +kernel
theorem dX7_beginsItem_9 : decode cX7_beginsItem 9 = .ok (.iconst 1, 1) := by decide +kernel
theorem dX7_beginsItem_10 : decode cX7_beginsItem 10 = .ok (.ireturn, 1) := by decide +kernel
theorem dX7_beginsItem_11 : decode cX7_beginsItem 11 = .ok (.aload_n 2, 1) := by decide +kernel
theorem dX7_beginsItem_12 : decode cX7_beginsItem 12 = .ok (.invokevirtual 50, 3) := by decide +kernel
theorem dX7_beginsItem_15 : decode cX7_beginsItem 15 = .ok (.ifCond .ne 15, 3) := by decide +kernel
theorem dX7_beginsItem_18 : decode cX7_beginsItem 18 = .ok (.aload_n 0, 1) := by decide +kernel
theorem dX7_beginsItem_19 : decode cX7_beginsItem 19 = .ok (.bipush (-9), 2) := by decide +kernel
theorem dX7_beginsItem_21 : decode cX7_beginsItem 21 = .ok (.putfield 54, 3) := by decide +kernel
theorem dX7_beginsItem_24 : decode cX7_beginsItem 24 = .ok (.aload_n 0, 1) := by decide +kernel
theorem dX7_beginsItem_25 : decode cX7_beginsItem 25 = .ok (.iload_n 1, 1) := by decide +kernel
theorem dX7_beginsItem_26 : decode cX7_beginsItem 26 = .ok (.invokevirtual 34, 3) := by decide +kernel
theorem dX7_beginsItem_29 : decode cX7_beginsItem 29 = .ok (.ireturn, 1) := by decide +kernel
theorem dX7_beginsItem_30 : decode cX7_beginsItem 30 = .ok (.aload_n 0, 1) := by decide +kernel
theorem dX7_beginsItem_31 : decode cX7_beginsItem 31 = .ok (.ldc 57, 2) := by decide +kernel
theorem dX7_beginsItem_33 : decode cX7_beginsItem 33 = .ok (.iload_n 1, 1) := by decide +kernel
theorem dX7_beginsItem_34 : decode cX7_beginsItem 34 = .ok (.i2c, 1) := by decide +kernel
theorem dX7_beginsItem_35 : decode cX7_beginsItem 35 = .ok (.invokevirtual 59, 3) := by decide +kernel
theorem dX7_beginsItem_38 : decode cX7_beginsItem 38 = .ok (.putfield 54, 3) := by decide +kernel
theorem dX7_beginsItem_41 : decode cX7_beginsItem 41 = .ok (.aload_n 0, 1) := by decide +kernel
theorem dX7_beginsItem_42 : decode cX7_beginsItem 42 = .ok (.iconst 1, 1) := by decide +kernel
theorem dX7_beginsItem_43 : decode cX7_beginsItem 43 = .ok (.putfield 24, 3) := by decide +kernel
theorem dX7_beginsItem_46 : decode cX7_beginsItem 46 = .ok (.aload_n 0, 1) := by decide +kernel
theorem dX7_beginsItem_47 : decode cX7_beginsItem 47 = .ok (.getfield 54, 3) := by decide +kernel
theorem dX7_beginsItem_50 : decode cX7_beginsItem 50 = .ok (.ifCond .lt 16, 3) := by decide +kernel
theorem dX7_beginsItem_53 : decode cX7_beginsItem 53 = .ok (.aload_n 2, 1) := by decide +kernel
theorem dX7_beginsItem_54 : decode cX7_beginsItem 54 = .ok (.invokevirtual 50, 3) := by decide +kernel
theorem dX7_beginsItem_57 : decode cX7_beginsItem 57 = .ok (.bipush 8, 2) := by decide +kernel
theorem dX7_beginsItem_59 : decode cX7_beginsItem 59 = .ok (.if_icmp .ge 7, 3) := by decide +kernel
theorem dX7_beginsItem_62 : decode cX7_beginsItem 62 = .ok (.iconst 1, 1) := by decide +kernel
theorem dX7_beginsItem_63 : decode cX7_beginsItem 63 = .ok (.goto 4, 3) := by decide +kernel
theorem dX7_beginsItem_66 : decode cX7_beginsItem 66 = .ok (.iconst 0, 1) := by decide +kernel
theorem dX7_beginsItem_67 : decode cX7_beginsItem 67 = .ok (.ireturn, 1) := by decide +kernel
theorem dX7_beginsSaying_0 : decode cX7_beginsSaying 0 = .ok (.aload_n 0, 1) := by decide +kernel
theorem dX7_beginsSaying_1 : decode cX7_beginsSaying 1 = .ok (.iload_n 1, 1) := by decide +kernel
theorem dX7_beginsSaying_2 : decode cX7_beginsSaying 2 = .ok (.aload_n 2, 1) := by decide +kernel
theorem dX7_beginsSaying_3 : decode cX7_beginsSaying 3 = .ok (.invokestatic 65, 3) := by decide +kernel
theorem dX7_beginsSaying_6 : decode cX7_beginsSaying 6 = .ok (.putfield 69, 3) := by decide +kernel
theorem dX7_beginsSaying_9 : decode cX7_beginsSaying 9 = .ok (.aload_n 0, 1) := by decide +kernel
theorem dX7_beginsSaying_10 : decode cX7_beginsSaying 10 = .ok (.iconst 2, 1) := by decide +kernel
theorem dX7_beginsSaying_11 : decode cX7_beginsSaying 11 = .ok (.putfield 24, 3) := by decide +kernel
theorem dX7_beginsSaying_14 : decode cX7_beginsSaying 14 = .ok (.aload_n 0, 1) := by decide +kernel
theorem dX7_beginsSaying_15 : decode cX7_beginsSaying 15 = .ok (.getfield 69, 3) := by decide +kernel
theorem dX7_beginsSaying_18 : decode cX7_beginsSaying 18 = .ok (.bipush (-9), 2) := by decide +kernel
theorem dX7_beginsSaying_20 : decode cX7_beginsSaying 20 = .ok (.if_icmp .eq 16, 3) := by decide +kernel
theorem dX7_beginsSaying_23 : decode cX7_beginsSaying 23 = .ok (.aload_n 2, 1) := by decide +kernel
theorem dX7_beginsSaying_24 : decode cX7_beginsSaying 24 = .ok (.invokevirtual 72, 3) := by decide +kernel
theorem dX7_beginsSaying_27 : decode cX7_beginsSaying 27 = .ok (.bipush 6, 2) := by decide +kernel
theorem dX7_beginsSaying_29 : decode cX7_beginsSaying 29 = .ok (.if_icmp .ge 7, 3) := by decide +kernel
theorem dX7_beginsSaying_32 : decode cX7_beginsSaying 32 = .ok (.iconst 1, 1) := by decide +kernel
theorem dX7_beginsSaying_33 : decode cX7_beginsSaying 33 = .ok (.goto 4, 3) := by decide +kernel
theorem dX7_beginsSaying_36 : decode cX7_beginsSaying 36 = .ok (.iconst 0, 1) := by decide +kernel
theorem dX7_beginsSaying_37 : decode cX7_beginsSaying 37 = .ok (.ireturn, 1) := by decide +kernel
theorem dX7_givesTense_0 : decode cX7_givesTense 0 = .ok (.aload_n 0, 1) := by decide +kernel
theorem dX7_givesTense_1 : decode cX7_givesTense 1 = .ok (.ldc 75, 2) := by decide +kernel
theorem dX7_givesTense_3 : decode cX7_givesTense 3 = .ok (.iload_n 1, 1) := by decide +kernel
theorem dX7_givesTense_4 : decode cX7_givesTense 4 = .ok (.i2c, 1) := by decide +kernel
theorem dX7_givesTense_5 : decode cX7_givesTense 5 = .ok (.invokevirtual 59, 3) := by decide +kernel
theorem dX7_givesTense_8 : decode cX7_givesTense 8 = .ok (.putfield 77, 3) := by decide +kernel
theorem dX7_givesTense_11 : decode cX7_givesTense 11 = .ok (.aload_n 0, 1) := by decide +kernel
theorem dX7_givesTense_12 : decode cX7_givesTense 12 = .ok (.iconst 4, 1) := by decide +kernel
theorem dX7_givesTense_13 : decode cX7_givesTense 13 = .ok (.putfield 24, 3) := by decide +kernel
theorem dX7_givesTense_16 : decode cX7_givesTense 16 = .ok (.aload_n 0, 1) := by decide +kernel
theorem dX7_givesTense_17 : decode cX7_givesTense 17 = .ok (.getfield 77, 3) := by decide +kernel
theorem dX7_givesTense_20 : decode cX7_givesTense 20 = .ok (.ifCond .lt 7, 3) := by decide +kernel
theorem dX7_givesTense_23 : decode cX7_givesTense 23 = .ok (.iconst 1, 1) := by decide +kernel
theorem dX7_givesTense_24 : decode cX7_givesTense 24 = .ok (.goto 4, 3) := by decide +kernel
theorem dX7_givesTense_27 : decode cX7_givesTense 27 = .ok (.iconst 0, 1) := by decide +kernel
theorem dX7_givesTense_28 : decode cX7_givesTense 28 = .ok (.ireturn, 1) := by decide +kernel
theorem dX7_givesSign_0 : decode cX7_givesSign 0 = .ok (.aload_n 0, 1) := by decide +kernel
theorem dX7_givesSign_1 : decode cX7_givesSign 1 = .ok (.ldc 80, 2) := by decide +kernel
theorem dX7_givesSign_3 : decode cX7_givesSign 3 = .ok (.iload_n 1, 1) := by decide +kernel
theorem dX7_givesSign_4 : decode cX7_givesSign 4 = .ok (.i2c, 1) := by decide +kernel
theorem dX7_givesSign_5 : decode cX7_givesSign 5 = .ok (.invokevirtual 59, 3) := by decide +kernel
theorem dX7_givesSign_8 : decode cX7_givesSign 8 = .ok (.putfield 82, 3) := by decide +kernel
theorem dX7_givesSign_11 : decode cX7_givesSign 11 = .ok (.aload_n 0, 1) := by decide +kernel
theorem dX7_givesSign_12 : decode cX7_givesSign 12 = .ok (.iconst 3, 1) := by decide +kernel
theorem dX7_givesSign_13 : decode cX7_givesSign 13 = .ok (.putfield 24, 3) := by decide +kernel
theorem dX7_givesSign_16 : decode cX7_givesSign 16 = .ok (.aload_n 0, 1) := by decide +kernel
theorem dX7_givesSign_17 : decode cX7_givesSign 17 = .ok (.getfield 82, 3) := by decide +kernel
theorem dX7_givesSign_20 : decode cX7_givesSign 20 = .ok (.ifCond .lt 7, 3) := by decide +kernel
theorem dX7_givesSign_23 : decode cX7_givesSign 23 = .ok (.iconst 1, 1) := by decide +kernel
theorem dX7_givesSign_24 : decode cX7_givesSign 24 = .ok (.goto 4, 3) := by decide +kernel
theorem dX7_givesSign_27 : decode cX7_givesSign 27 = .ok (.iconst 0, 1) := by decide +kernel
theorem dX7_givesSign_28 : decode cX7_givesSign 28 = .ok (.ireturn, 1) := by decide +kernel
theorem dX7_givesSecond_0 : decode cX7_givesSecond 0 = .ok (.aload_n 0, 1) := by decide +kernel
theorem dX7_givesSecond_1 : decode cX7_givesSecond 1 = .ok (.iload_n 1, 1) := by decide +kernel
theorem dX7_givesSecond_2 : decode cX7_givesSecond 2 = .ok (.aload_n 2, 1) := by decide +kernel
theorem dX7_givesSecond_3 : decode cX7_givesSecond 3 = .ok (.invokestatic 65, 3) := by decide +kernel
theorem dX7_givesSecond_6 : decode cX7_givesSecond 6 = .ok (.putfield 85, 3) := by decide +kernel
theorem dX7_givesSecond_9 : decode cX7_givesSecond 9 = .ok (.aload_n 0, 1) := by decide +kernel
theorem dX7_givesSecond_10 : decode cX7_givesSecond 10 = .ok (.iconst 5, 1) := by decide +kernel
theorem dX7_givesSecond_11 : decode cX7_givesSecond 11 = .ok (.putfield 24, 3) := by decide +kernel
theorem dX7_givesSecond_14 : decode cX7_givesSecond 14 = .ok (.aload_n 0, 1) := by decide +kernel
theorem dX7_givesSecond_15 : decode cX7_givesSecond 15 = .ok (.getfield 85, 3) := by decide +kernel
theorem dX7_givesSecond_18 : decode cX7_givesSecond 18 = .ok (.bipush (-9), 2) := by decide +kernel
theorem dX7_givesSecond_20 : decode cX7_givesSecond 20 = .ok (.if_icmp .eq 18, 3) := by decide +kernel
theorem dX7_givesSecond_23 : decode cX7_givesSecond 23 = .ok (.aload_n 0, 1) := by decide +kernel
theorem dX7_givesSecond_24 : decode cX7_givesSecond 24 = .ok (.getfield 85, 3) := by decide +kernel
theorem dX7_givesSecond_27 : decode cX7_givesSecond 27 = .ok (.aload_n 0, 1) := by decide +kernel
theorem dX7_givesSecond_28 : decode cX7_givesSecond 28 = .ok (.getfield 69, 3) := by decide +kernel
theorem dX7_givesSecond_31 : decode cX7_givesSecond 31 = .ok (.if_icmp .eq 7, 3) := by decide +kernel
theorem dX7_givesSecond_34 : decode cX7_givesSecond 34 = .ok (.iconst 1, 1) := by decide +kernel
theorem dX7_givesSecond_35 : decode cX7_givesSecond 35 = .ok (.goto 4, 3) := by decide +kernel
theorem dX7_givesSecond_38 : decode cX7_givesSecond 38 = .ok (.iconst 0, 1) := by decide +kernel
theorem dX7_givesSecond_39 : decode cX7_givesSecond 39 = .ok (.ireturn, 1) := by decide +kernel
theorem dX7_endsItem_0 : decode cX7_endsItem 0 = .ok (.iload_n 1, 1) := by decide +kernel
theorem dX7_endsItem_1 : decode cX7_endsItem 1 = .ok (.bipush 59, 2) := by decide +kernel
theorem dX7_endsItem_3 : decode cX7_endsItem 3 = .ok (.if_icmp .eq 5, 3) := by decide +kernel
theorem dX7_endsItem_6 : decode cX7_endsItem 6 = .ok (.iconst 0, 1) := by decide +kernel
theorem dX7_endsItem_7 : decode cX7_endsItem 7 = .ok (.ireturn, 1) := by decide +kernel
theorem dX7_endsItem_8 : decode cX7_endsItem 8 = .ok (.aload_n 0, 1) := by decide +kernel
theorem dX7_endsItem_9 : decode cX7_endsItem 9 = .ok (.getfield 24, 3) := by decide +kernel
theorem dX7_endsItem_12 : decode cX7_endsItem 12 = .ok (.iconst 4, 1) := by decide +kernel
theorem dX7_endsItem_13 : decode cX7_endsItem 13 = .ok (.if_icmp .ne 18, 3) := by decide +kernel
theorem dX7_endsItem_16 : decode cX7_endsItem 16 = .ok (.aload_n 2, 1) := by decide +kernel
theorem dX7_endsItem_17 : decode cX7_endsItem 17 = .ok (.aload_n 0, 1) := by decide +kernel
theorem dX7_endsItem_18 : decode cX7_endsItem 18 = .ok (.getfield 77, 3) := by decide +kernel
theorem dX7_endsItem_21 : decode cX7_endsItem 21 = .ok (.aload_n 0, 1) := by decide +kernel
theorem dX7_endsItem_22 : decode cX7_endsItem 22 = .ok (.getfield 54, 3) := by decide +kernel
theorem dX7_endsItem_25 : decode cX7_endsItem 25 = .ok (.invokevirtual 88, 3) := by decide +kernel
theorem dX7_endsItem_28 : decode cX7_endsItem 28 = .ok (.goto 19, 3) := by decide +kernel
theorem dX7_endsItem_31 : decode cX7_endsItem 31 = .ok (.aload_n 2, 1) := by decide +kernel
theorem dX7_endsItem_32 : decode cX7_endsItem 32 = .ok (.aload_n 0, 1) := by decide +kernel
theorem dX7_endsItem_33 : decode cX7_endsItem 33 = .ok (.getfield 69, 3) := by decide +kernel
theorem dX7_endsItem_36 : decode cX7_endsItem 36 = .ok (.aload_n 0, 1) := by decide +kernel
theorem dX7_endsItem_37 : decode cX7_endsItem 37 = .ok (.getfield 82, 3) := by decide +kernel
theorem dX7_endsItem_40 : decode cX7_endsItem 40 = .ok (.aload_n 0, 1) := by decide +kernel
theorem dX7_endsItem_41 : decode cX7_endsItem 41 = .ok (.getfield 85, 3) := by decide +kernel
theorem dX7_endsItem_44 : decode cX7_endsItem 44 = .ok (.invokevirtual 92, 3) := by decide +kernel
theorem dX7_endsItem_47 : decode cX7_endsItem 47 = .ok (.aload_n 0, 1) := by decide +kernel
theorem dX7_endsItem_48 : decode cX7_endsItem 48 = .ok (.iconst 0, 1) := by decide +kernel
theorem dX7_endsItem_49 : decode cX7_endsItem 49 = .ok (.putfield 24, 3) := by decide +kernel
theorem dX7_endsItem_52 : decode cX7_endsItem 52 = .ok (.iconst 1, 1) := by decide +kernel
theorem dX7_endsItem_53 : decode cX7_endsItem 53 = .ok (.ireturn, 1) := by decide +kernel
theorem dX7_timeOf_0 : decode cX7_timeOf 0 = .ok (.iload_n 0, 1) := by decide +kernel
theorem dX7_timeOf_1 : decode cX7_timeOf 1 = .ok (.bipush 78, 2) := by decide +kernel
theorem dX7_timeOf_3 : decode cX7_timeOf 3 = .ok (.if_icmp .ne 5, 3) := by decide +kernel
theorem dX7_timeOf_6 : decode cX7_timeOf 6 = .ok (.iconst 0, 1) := by decide +kernel
theorem dX7_timeOf_7 : decode cX7_timeOf 7 = .ok (.ireturn, 1) := by decide +kernel
theorem dX7_timeOf_8 : decode cX7_timeOf 8 = .ok (.iload_n 0, 1) := by decide +kernel
theorem dX7_timeOf_9 : decode cX7_timeOf 9 = .ok (.bipush 65, 2) := by decide +kernel
theorem dX7_timeOf_11 : decode cX7_timeOf 11 = .ok (.isub, 1) := by decide +kernel
theorem dX7_timeOf_12 : decode cX7_timeOf 12 = .ok (.istore_n 2, 1) := by decide +kernel
theorem dX7_timeOf_13 : decode cX7_timeOf 13 = .ok (.iload_n 2, 1) := by decide +kernel
theorem dX7_timeOf_14 : decode cX7_timeOf 14 = .ok (.ifCond .lt 18, 3) := by decide +kernel
theorem dX7_timeOf_17 : decode cX7_timeOf 17 = .ok (.iload_n 2, 1) := by decide +kernel
theorem dX7_timeOf_18 : decode cX7_timeOf 18 = .ok (.aload_n 1, 1) := by decide +kernel
theorem dX7_timeOf_19 : decode cX7_timeOf 19 = .ok (.invokevirtual 50, 3) := by decide +kernel
theorem dX7_timeOf_22 : decode cX7_timeOf 22 = .ok (.if_icmp .ge 10, 3) := by decide +kernel
theorem dX7_timeOf_25 : decode cX7_timeOf 25 = .ok (.iload_n 2, 1) := by decide +kernel
theorem dX7_timeOf_26 : decode cX7_timeOf 26 = .ok (.invokestatic 96, 3) := by decide +kernel
theorem dX7_timeOf_29 : decode cX7_timeOf 29 = .ok (.goto 5, 3) := by decide +kernel
theorem dX7_timeOf_32 : decode cX7_timeOf 32 = .ok (.bipush (-9), 2) := by decide +kernel
theorem dX7_timeOf_34 : decode cX7_timeOf 34 = .ok (.ireturn, 1) := by decide +kernel
theorem dX5_init_0 : decode cX5_init 0 = .ok (.aload_n 0, 1) := by decide +kernel
theorem dX5_init_1 : decode cX5_init 1 = .ok (.invokespecial 3, 3) := by decide +kernel
theorem dX5_init_4 : decode cX5_init 4 = .ok (.aload_n 0, 1) := by decide +kernel
theorem dX5_init_5 : decode cX5_init 5 = .ok (.bipush 8, 2) := by decide +kernel
theorem dX5_init_7 : decode cX5_init 7 = .ok (.newarray .int, 2) := by decide +kernel
theorem dX5_init_9 : decode cX5_init 9 = .ok (.putfield 9, 3) := by decide +kernel
theorem dX5_init_12 : decode cX5_init 12 = .ok (.aload_n 0, 1) := by decide +kernel
theorem dX5_init_13 : decode cX5_init 13 = .ok (.bipush 8, 2) := by decide +kernel
theorem dX5_init_15 : decode cX5_init 15 = .ok (.newarray .int, 2) := by decide +kernel
theorem dX5_init_17 : decode cX5_init 17 = .ok (.putfield 15, 3) := by decide +kernel
theorem dX5_init_20 : decode cX5_init 20 = .ok (.aload_n 0, 1) := by decide +kernel
theorem dX5_init_21 : decode cX5_init 21 = .ok (.sipush 256, 3) := by decide +kernel
theorem dX5_init_24 : decode cX5_init 24 = .ok (.newarray .int, 2) := by decide +kernel
theorem dX5_init_26 : decode cX5_init 26 = .ok (.putfield 18, 3) := by decide +kernel
theorem dX5_init_29 : decode cX5_init 29 = .ok (.aload_n 0, 1) := by decide +kernel
theorem dX5_init_30 : decode cX5_init 30 = .ok (.sipush 256, 3) := by decide +kernel
theorem dX5_init_33 : decode cX5_init 33 = .ok (.newarray .int, 2) := by decide +kernel
theorem dX5_init_35 : decode cX5_init 35 = .ok (.putfield 21, 3) := by decide +kernel
theorem dX5_init_38 : decode cX5_init 38 = .ok (.aload_n 0, 1) := by decide +kernel
theorem dX5_init_39 : decode cX5_init 39 = .ok (.bipush 8, 2) := by decide +kernel
theorem dX5_init_41 : decode cX5_init 41 = .ok (.newarray .int, 2) := by decide +kernel
theorem dX5_init_43 : decode cX5_init 43 = .ok (.putfield 24, 3) := by decide +kernel
theorem dX5_init_46 : decode cX5_init 46 = .ok (.aload_n 0, 1) := by decide +kernel
theorem dX5_init_47 : decode cX5_init 47 = .ok (.bipush 8, 2) := by decide +kernel
theorem dX5_init_49 : decode cX5_init 49 = .ok (.bipush 8, 2) := by decide +kernel
theorem dX5_init_51 : decode cX5_init 51 = .ok (.multianewarray 27 2, 4) := by decide +kernel
theorem dX5_init_55 : decode cX5_init 55 = .ok (.putfield 29, 3) := by decide +kernel
theorem dX5_init_58 : decode cX5_init 58 = .ok (.return_, 1) := by decide +kernel
theorem dX5_all_0 : decode cX5_all 0 = .ok (.aload_n 0, 1) := by decide +kernel
theorem dX5_all_1 : decode cX5_all 1 = .ok (.getfield 32, 3) := by decide +kernel
theorem dX5_all_4 : decode cX5_all 4 = .ok (.ireturn, 1) := by decide +kernel
theorem dX5_remaining_0 : decode cX5_remaining 0 = .ok (.iload_n 1, 1) := by decide +kernel
theorem dX5_remaining_1 : decode cX5_remaining 1 = .ok (.invokestatic 36, 3) := by decide +kernel
theorem dX5_remaining_4 : decode cX5_remaining 4 = .ok (.ifCond .eq 10, 3) := by decide +kernel
theorem dX5_remaining_7 : decode cX5_remaining 7 = .ok (.iload_n 3, 1) := by decide +kernel
theorem dX5_remaining_8 : decode cX5_remaining 8 = .ok (.invokestatic 36, 3) := by decide +kernel
theorem dX5_remaining_11 : decode cX5_remaining 11 = .ok (.ifCond .ne 5, 3) := by decide +kernel
theorem dX5_remaining_14 : decode cX5_remaining 14 = .ok (.iconst 0, 1) := by decide +kernel
theorem dX5_remaining_15 : decode cX5_remaining 15 = .ok (.ireturn, 1) := by decide +kernel
theorem dX5_remaining_16 : decode cX5_remaining 16 = .ok (.aload_n 0, 1) := by decide +kernel
theorem dX5_remaining_17 : decode cX5_remaining 17 = .ok (.getfield 9, 3) := by decide +kernel
theorem dX5_remaining_20 : decode cX5_remaining 20 = .ok (.iload_n 1, 1) := by decide +kernel
theorem dX5_remaining_21 : decode cX5_remaining 21 = .ok (.iaload, 1) := by decide +kernel
theorem dX5_remaining_22 : decode cX5_remaining 22 = .ok (.istore 4, 2) := by decide +kernel
theorem dX5_remaining_24 : decode cX5_remaining 24 = .ok (.aload_n 0, 1) := by decide +kernel
theorem dX5_remaining_25 : decode cX5_remaining 25 = .ok (.getfield 9, 3) := by decide +kernel
theorem dX5_remaining_28 : decode cX5_remaining 28 = .ok (.iload_n 3, 1) := by decide +kernel
theorem dX5_remaining_29 : decode cX5_remaining 29 = .ok (.iaload, 1) := by decide +kernel
theorem dX5_remaining_30 : decode cX5_remaining 30 = .ok (.istore 5, 2) := by decide +kernel
theorem dX5_remaining_32 : decode cX5_remaining 32 = .ok (.iload 4, 2) := by decide +kernel
theorem dX5_remaining_34 : decode cX5_remaining 34 = .ok (.invokestatic 36, 3) := by decide +kernel
theorem dX5_remaining_37 : decode cX5_remaining 37 = .ok (.ifCond .eq 11, 3) := by decide +kernel
theorem dX5_remaining_40 : decode cX5_remaining 40 = .ok (.iload 5, 2) := by decide +kernel
theorem dX5_remaining_42 : decode cX5_remaining 42 = .ok (.invokestatic 36, 3) := by decide +kernel
theorem dX5_remaining_45 : decode cX5_remaining 45 = .ok (.ifCond .ne 5, 3) := by decide +kernel
theorem dX5_remaining_48 : decode cX5_remaining 48 = .ok (.iconst 0, 1) := by decide +kernel
theorem dX5_remaining_49 : decode cX5_remaining 49 = .ok (.ireturn, 1) := by decide +kernel
theorem dX5_remaining_50 : decode cX5_remaining 50 = .ok (.iload_n 2, 1) := by decide +kernel
theorem dX5_remaining_51 : decode cX5_remaining 51 = .ok (.ifCond .ne 14, 3) := by decide +kernel
theorem dX5_remaining_54 : decode cX5_remaining 54 = .ok (.aload_n 0, 1) := by decide +kernel
theorem dX5_remaining_55 : decode cX5_remaining 55 = .ok (.getfield 29, 3) := by decide +kernel
theorem dX5_remaining_58 : decode cX5_remaining 58 = .ok (.iload 4, 2) := by decide +kernel
theorem dX5_remaining_60 : decode cX5_remaining 60 = .ok (.aaload, 1) := by decide +kernel
theorem dX5_remaining_61 : decode cX5_remaining 61 = .ok (.iload 5, 2) := by decide +kernel
theorem dX5_remaining_63 : decode cX5_remaining 63 = .ok (.iaload, 1) := by decide +kernel
theorem dX5_remaining_64 : decode cX5_remaining 64 = .ok (.ireturn, 1) := by decide +kernel
theorem dX5_remaining_65 : decode cX5_remaining 65 = .ok (.iload_n 2, 1) := by decide +kernel
theorem dX5_remaining_66 : decode cX5_remaining 66 = .ok (.iconst 2, 1) := by decide +kernel
theorem dX5_remaining_67 : decode cX5_remaining 67 = .ok (.if_icmp .ne 14, 3) := by decide +kernel
theorem dX5_remaining_70 : decode cX5_remaining 70 = .ok (.aload_n 0, 1) := by decide +kernel
theorem dX5_remaining_71 : decode cX5_remaining 71 = .ok (.getfield 29, 3) := by decide +kernel
theorem dX5_remaining_74 : decode cX5_remaining 74 = .ok (.iload 5, 2) := by decide +kernel
theorem dX5_remaining_76 : decode cX5_remaining 76 = .ok (.aaload, 1) := by decide +kernel
theorem dX5_remaining_77 : decode cX5_remaining 77 = .ok (.iload 4, 2) := by decide +kernel
theorem dX5_remaining_79 : decode cX5_remaining 79 = .ok (.iaload, 1) := by decide +kernel
theorem dX5_remaining_80 : decode cX5_remaining 80 = .ok (.ireturn, 1) := by decide +kernel
theorem dX5_remaining_81 : decode cX5_remaining 81 = .ok (.aload_n 0, 1) := by decide +kernel
theorem dX5_remaining_82 : decode cX5_remaining 82 = .ok (.getfield 32, 3) := by decide +kernel
theorem dX5_remaining_85 : decode cX5_remaining 85 = .ok (.aload_n 0, 1) := by decide +kernel
theorem dX5_remaining_86 : decode cX5_remaining 86 = .ok (.getfield 29, 3) := by decide +kernel
theorem dX5_remaining_89 : decode cX5_remaining 89 = .ok (.iload 4, 2) := by decide +kernel
theorem dX5_remaining_91 : decode cX5_remaining 91 = .ok (.aaload, 1) := by decide +kernel
theorem dX5_remaining_92 : decode cX5_remaining 92 = .ok (.iload 5, 2) := by decide +kernel
theorem dX5_remaining_94 : decode cX5_remaining 94 = .ok (.iaload, 1) := by decide +kernel
theorem dX5_remaining_95 : decode cX5_remaining 95 = .ok (.isub, 1) := by decide +kernel
theorem dX5_remaining_96 : decode cX5_remaining 96 = .ok (.aload_n 0, 1) := by decide +kernel
theorem dX5_remaining_97 : decode cX5_remaining 97 = .ok (.getfield 29, 3) := by decide +kernel
theorem dX5_remaining_100 : decode cX5_remaining 100 = .ok (.iload 5, 2) := by decide +kernel
theorem dX5_remaining_102 : decode cX5_remaining 102 = .ok (.aaload, 1) := by decide +kernel
theorem dX5_remaining_103 : decode cX5_remaining 103 = .ok (.iload 4, 2) := by decide +kernel
theorem dX5_remaining_105 : decode cX5_remaining 105 = .ok (.iaload, 1) := by decide +kernel
theorem dX5_remaining_106 : decode cX5_remaining 106 = .ok (.isub, 1) := by decide +kernel
theorem dX5_remaining_107 : decode cX5_remaining 107 = .ok (.ireturn, 1) := by decide +kernel
theorem dX5_worst_0 : decode cX5_worst 0 = .ok (.aload_n 0, 1) := by decide +kernel
theorem dX5_worst_1 : decode cX5_worst 1 = .ok (.iload_n 1, 1) := by decide +kernel
theorem dX5_worst_2 : decode cX5_worst 2 = .ok (.iconst 0, 1) := by decide +kernel
theorem dX5_worst_3 : decode cX5_worst 3 = .ok (.iload_n 2, 1) := by decide +kernel
theorem dX5_worst_4 : decode cX5_worst 4 = .ok (.invokevirtual 40, 3) := by decide +kernel
theorem dX5_worst_7 : decode cX5_worst 7 = .ok (.aload_n 0, 1) := by decide +kernel
theorem dX5_worst_8 : decode cX5_worst 8 = .ok (.iload_n 1, 1) := by decide +kernel
theorem dX5_worst_9 : decode cX5_worst 9 = .ok (.iconst 2, 1) := by decide +kernel
theorem dX5_worst_10 : decode cX5_worst 10 = .ok (.iload_n 2, 1) := by decide +kernel
theorem dX5_worst_11 : decode cX5_worst 11 = .ok (.invokevirtual 40, 3) := by decide +kernel
theorem dX5_worst_14 : decode cX5_worst 14 = .ok (.invokestatic 44, 3) := by decide +kernel
theorem dX5_worst_17 : decode cX5_worst 17 = .ok (.istore_n 3, 1) := by decide +kernel
theorem dX5_worst_18 : decode cX5_worst 18 = .ok (.iload_n 3, 1) := by decide +kernel
theorem dX5_worst_19 : decode cX5_worst 19 = .ok (.aload_n 0, 1) := by decide +kernel
theorem dX5_worst_20 : decode cX5_worst 20 = .ok (.iload_n 1, 1) := by decide +kernel
theorem dX5_worst_21 : decode cX5_worst 21 = .ok (.iconst 1, 1) := by decide +kernel
theorem dX5_worst_22 : decode cX5_worst 22 = .ok (.iload_n 2, 1) := by decide +kernel
theorem dX5_worst_23 : decode cX5_worst 23 = .ok (.invokevirtual 40, 3) := by decide +kernel
theorem dX5_worst_26 : decode cX5_worst 26 = .ok (.invokestatic 44, 3) := by decide +kernel
theorem dX5_worst_29 : decode cX5_worst 29 = .ok (.ireturn, 1) := by decide +kernel
theorem dX5_fill_0 : decode cX5_fill 0 = .ok (.aload_n 0, 1) := by decide +kernel
theorem dX5_fill_1 : decode cX5_fill 1 = .ok (.invokevirtual 50, 3) := by decide +kernel
theorem dX5_fill_4 : decode cX5_fill 4 = .ok (.aload_n 1, 1) := by decide +kernel
theorem dX5_fill_5 : decode cX5_fill 5 = .ok (.invokevirtual 53, 3) := by decide +kernel
theorem dX5_fill_8 : decode cX5_fill 8 = .ok (.ifCond .ne 4, 3) := by decide +kernel
theorem dX5_fill_11 : decode cX5_fill 11 = .ok (.return_, 1) := by decide +kernel
theorem dX5_fill_12 : decode cX5_fill 12 = .ok (.iconst 0, 1) := by decide +kernel
theorem dX5_fill_13 : decode cX5_fill 13 = .ok (.istore_n 3, 1) := by decide +kernel
theorem dX5_fill_14 : decode cX5_fill 14 = .ok (.iload_n 3, 1) := by decide +kernel
theorem dX5_fill_15 : decode cX5_fill 15 = .ok (.iload_n 2, 1) := by decide +kernel
theorem dX5_fill_16 : decode cX5_fill 16 = .ok (.if_icmp .ge 21, 3) := by decide +kernel
theorem dX5_fill_19 : decode cX5_fill 19 = .ok (.iload_n 3, 1) := by decide +kernel
theorem dX5_fill_20 : decode cX5_fill 20 = .ok (.bipush 8, 2) := by decide +kernel
theorem dX5_fill_22 : decode cX5_fill 22 = .ok (.if_icmp .ge 15, 3) := by decide +kernel
theorem dX5_fill_25 : decode cX5_fill 25 = .ok (.aload_n 0, 1) := by decide +kernel
theorem dX5_fill_26 : decode cX5_fill 26 = .ok (.aload_n 1, 1) := by decide +kernel
theorem dX5_fill_27 : decode cX5_fill 27 = .ok (.iload_n 3, 1) := by decide +kernel
theorem dX5_fill_28 : decode cX5_fill 28 = .ok (.invokevirtual 59, 3) := by decide +kernel
theorem dX5_fill_31 : decode cX5_fill 31 = .ok (.iinc 3 1, 3) := by decide +kernel
theorem dX5_fill_34 : decode cX5_fill 34 = .ok (.goto (-20), 3) := by decide +kernel
theorem dX5_fill_37 : decode cX5_fill 37 = .ok (.iconst 0, 1) := by decide +kernel
theorem dX5_fill_38 : decode cX5_fill 38 = .ok (.istore_n 3, 1) := by decide +kernel
theorem dX5_fill_39 : decode cX5_fill 39 = .ok (.iload_n 3, 1) := by decide +kernel
theorem dX5_fill_40 : decode cX5_fill 40 = .ok (.iload_n 2, 1) := by decide +kernel
theorem dX5_fill_41 : decode cX5_fill 41 = .ok (.if_icmp .ge 21, 3) := by decide +kernel
theorem dX5_fill_44 : decode cX5_fill 44 = .ok (.iload_n 3, 1) := by decide +kernel
theorem dX5_fill_45 : decode cX5_fill 45 = .ok (.bipush 8, 2) := by decide +kernel
theorem dX5_fill_47 : decode cX5_fill 47 = .ok (.if_icmp .ge 15, 3) := by decide +kernel
theorem dX5_fill_50 : decode cX5_fill 50 = .ok (.aload_n 0, 1) := by decide +kernel
theorem dX5_fill_51 : decode cX5_fill 51 = .ok (.aload_n 1, 1) := by decide +kernel
theorem dX5_fill_52 : decode cX5_fill 52 = .ok (.iload_n 3, 1) := by decide +kernel
theorem dX5_fill_53 : decode cX5_fill 53 = .ok (.invokevirtual 63, 3) := by decide +kernel
theorem dX5_fill_56 : decode cX5_fill 56 = .ok (.iinc 3 1, 3) := by decide +kernel
theorem dX5_fill_59 : decode cX5_fill 59 = .ok (.goto (-20), 3) := by decide +kernel
theorem dX5_fill_62 : decode cX5_fill 62 = .ok (.aload_n 0, 1) := by decide +kernel
theorem dX5_fill_63 : decode cX5_fill 63 = .ok (.invokevirtual 66, 3) := by decide +kernel
theorem dX5_fill_66 : decode cX5_fill 66 = .ok (.aload_n 0, 1) := by decide +kernel
theorem dX5_fill_67 : decode cX5_fill 67 = .ok (.aload_n 0, 1) := by decide +kernel
theorem dX5_fill_68 : decode cX5_fill 68 = .ok (.getfield 21, 3) := by decide +kernel
theorem dX5_fill_71 : decode cX5_fill 71 = .ok (.iconst 0, 1) := by decide +kernel
theorem dX5_fill_72 : decode cX5_fill 72 = .ok (.iaload, 1) := by decide +kernel
theorem dX5_fill_73 : decode cX5_fill 73 = .ok (.putfield 32, 3) := by decide +kernel
theorem dX5_fill_76 : decode cX5_fill 76 = .ok (.return_, 1) := by decide +kernel
theorem dX5_empty_0 : decode cX5_empty 0 = .ok (.aload_n 0, 1) := by decide +kernel
theorem dX5_empty_1 : decode cX5_empty 1 = .ok (.iconst 0, 1) := by decide +kernel
theorem dX5_empty_2 : decode cX5_empty 2 = .ok (.putfield 69, 3) := by decide +kernel
theorem dX5_empty_5 : decode cX5_empty 5 = .ok (.aload_n 0, 1) := by decide +kernel
theorem dX5_empty_6 : decode cX5_empty 6 = .ok (.iconst 0, 1) := by decide +kernel
theorem dX5_empty_7 : decode cX5_empty 7 = .ok (.putfield 32, 3) := by decide +kernel
theorem dX5_empty_10 : decode cX5_empty 10 = .ok (.iconst 0, 1) := by decide +kernel
theorem dX5_empty_11 : decode cX5_empty 11 = .ok (.istore_n 1, 1) := by decide +kernel
theorem dX5_empty_12 : decode cX5_empty 12 = .ok (.iload_n 1, 1) := by decide +kernel
theorem dX5_empty_13 : decode cX5_empty 13 = .ok (.sipush 256, 3) := by decide +kernel
theorem dX5_empty_16 : decode cX5_empty 16 = .ok (.if_icmp .ge 23, 3) := by decide +kernel
theorem dX5_empty_19 : decode cX5_empty 19 = .ok (.aload_n 0, 1) := by decide +kernel
theorem dX5_empty_20 : decode cX5_empty 20 = .ok (.getfield 18, 3) := by decide +kernel
theorem dX5_empty_23 : decode cX5_empty 23 = .ok (.iload_n 1, 1) := by decide +kernel
theorem dX5_empty_24 : decode cX5_empty 24 = .ok (.iconst 0, 1) := by decide +kernel
theorem dX5_empty_25 : decode cX5_empty 25 = .ok (.iastore, 1) := by decide +kernel
theorem dX5_empty_26 : decode cX5_empty 26 = .ok (.aload_n 0, 1) := by decide +kernel
theorem dX5_empty_27 : decode cX5_empty 27 = .ok (.getfield 21, 3) := by decide +kernel
theorem dX5_empty_30 : decode cX5_empty 30 = .ok (.iload_n 1, 1) := by decide +kernel
theorem dX5_empty_31 : decode cX5_empty 31 = .ok (.iconst 0, 1) := by decide +kernel
theorem dX5_empty_32 : decode cX5_empty 32 = .ok (.iastore, 1) := by decide +kernel
theorem dX5_empty_33 : decode cX5_empty 33 = .ok (.iinc 1 1, 3) := by decide +kernel
theorem dX5_empty_36 : decode cX5_empty 36 = .ok (.goto (-24), 3) := by decide +kernel
theorem dX5_empty_39 : decode cX5_empty 39 = .ok (.iconst 0, 1) := by decide +kernel
theorem dX5_empty_40 : decode cX5_empty 40 = .ok (.istore_n 1, 1) := by decide +kernel
theorem dX5_empty_41 : decode cX5_empty 41 = .ok (.iload_n 1, 1) := by decide +kernel
theorem dX5_empty_42 : decode cX5_empty 42 = .ok (.bipush 8, 2) := by decide +kernel
theorem dX5_empty_44 : decode cX5_empty 44 = .ok (.if_icmp .ge 46, 3) := by decide +kernel
theorem dX5_empty_47 : decode cX5_empty 47 = .ok (.aload_n 0, 1) := by decide +kernel
theorem dX5_empty_48 : decode cX5_empty 48 = .ok (.getfield 9, 3) := by decide +kernel
theorem dX5_empty_51 : decode cX5_empty 51 = .ok (.iload_n 1, 1) := by decide +kernel
theorem dX5_empty_52 : decode cX5_empty 52 = .ok (.iload_n 1, 1) := by decide +kernel
theorem dX5_empty_53 : decode cX5_empty 53 = .ok (.iastore, 1) := by decide +kernel
theorem dX5_empty_54 : decode cX5_empty 54 = .ok (.aload_n 0, 1) := by decide +kernel
theorem dX5_empty_55 : decode cX5_empty 55 = .ok (.getfield 15, 3) := by decide +kernel
theorem dX5_empty_58 : decode cX5_empty 58 = .ok (.iload_n 1, 1) := by decide +kernel
theorem dX5_empty_59 : decode cX5_empty 59 = .ok (.iconst 0, 1) := by decide +kernel
theorem dX5_empty_60 : decode cX5_empty 60 = .ok (.iastore, 1) := by decide +kernel
theorem dX5_empty_61 : decode cX5_empty 61 = .ok (.iconst 0, 1) := by decide +kernel
theorem dX5_empty_62 : decode cX5_empty 62 = .ok (.istore_n 2, 1) := by decide +kernel
theorem dX5_empty_63 : decode cX5_empty 63 = .ok (.iload_n 2, 1) := by decide +kernel
theorem dX5_empty_64 : decode cX5_empty 64 = .ok (.bipush 8, 2) := by decide +kernel
theorem dX5_empty_66 : decode cX5_empty 66 = .ok (.if_icmp .ge 18, 3) := by decide +kernel
theorem dX5_empty_69 : decode cX5_empty 69 = .ok (.aload_n 0, 1) := by decide +kernel
theorem dX5_empty_70 : decode cX5_empty 70 = .ok (.getfield 29, 3) := by decide +kernel
theorem dX5_empty_73 : decode cX5_empty 73 = .ok (.iload_n 1, 1) := by decide +kernel
theorem dX5_empty_74 : decode cX5_empty 74 = .ok (.aaload, 1) := by decide +kernel
theorem dX5_empty_75 : decode cX5_empty 75 = .ok (.iload_n 2, 1) := by decide +kernel
theorem dX5_empty_76 : decode cX5_empty 76 = .ok (.iconst 0, 1) := by decide +kernel
theorem dX5_empty_77 : decode cX5_empty 77 = .ok (.iastore, 1) := by decide +kernel
theorem dX5_empty_78 : decode cX5_empty 78 = .ok (.iinc 2 1, 3) := by decide +kernel
theorem dX5_empty_81 : decode cX5_empty 81 = .ok (.goto (-18), 3) := by decide +kernel
theorem dX5_empty_84 : decode cX5_empty 84 = .ok (.iinc 1 1, 3) := by decide +kernel
theorem dX5_empty_87 : decode cX5_empty 87 = .ok (.goto (-46), 3) := by decide +kernel
theorem dX5_empty_90 : decode cX5_empty 90 = .ok (.return_, 1) := by decide +kernel
theorem dX5_putTogether_0 : decode cX5_putTogether 0 = .ok (.iload_n 2, 1) := by decide +kernel
theorem dX5_putTogether_1 : decode cX5_putTogether 1 = .ok (.invokestatic 36, 3) := by decide +kernel
theorem dX5_putTogether_4 : decode cX5_putTogether 4 = .ok (.ifCond .ne 4, 3) := by decide +kernel
theorem dX5_putTogether_7 : decode cX5_putTogether 7 = .ok (.return_, 1) := by decide +kernel
theorem dX5_putTogether_8 : decode cX5_putTogether 8 = .ok (.iload_n 2, 1) := by decide +kernel
theorem dX5_putTogether_9 : decode cX5_putTogether 9 = .ok (.iconst 1, 1) := by decide +kernel
theorem dX5_putTogether_10 : decode cX5_putTogether 10 = .ok (.isub, 1) := by decide +kernel
theorem dX5_putTogether_11 : decode cX5_putTogether 11 = .ok (.istore_n 3, 1) := by decide +kernel
theorem dX5_putTogether_12 : decode cX5_putTogether 12 = .ok (.iload_n 3, 1) := by decide +kernel
theorem dX5_putTogether_13 : decode cX5_putTogether 13 = .ok (.ifCond .lt 32, 3) := by decide +kernel
theorem dX5_putTogether_16 : decode cX5_putTogether 16 = .ok (.aload_n 1, 1) := by decide +kernel
theorem dX5_putTogether_17 : decode cX5_putTogether 17 = .ok (.iload_n 3, 1) := by decide +kernel
theorem dX5_putTogether_18 : decode cX5_putTogether 18 = .ok (.invokestatic 72, 3) := by decide +kernel
theorem dX5_putTogether_21 : decode cX5_putTogether 21 = .ok (.iload_n 2, 1) := by decide +kernel
theorem dX5_putTogether_22 : decode cX5_putTogether 22 = .ok (.invokestatic 72, 3) := by decide +kernel
theorem dX5_putTogether_25 : decode cX5_putTogether 25 = .ok (.invokevirtual 76, 3) := by decide +kernel
theorem dX5_putTogether_28 : decode cX5_putTogether 28 = .ok (.iconst 2, 1) := by decide +kernel
theorem dX5_putTogether_29 : decode cX5_putTogether 29 = .ok (.if_icmp .ne 10, 3) := by decide +kernel
theorem dX5_putTogether_32 : decode cX5_putTogether 32 = .ok (.aload_n 0, 1) := by decide +kernel
theorem dX5_putTogether_33 : decode cX5_putTogether 33 = .ok (.getfield 9, 3) := by decide +kernel
theorem dX5_putTogether_36 : decode cX5_putTogether 36 = .ok (.iload_n 2, 1) := by decide +kernel
theorem dX5_putTogether_37 : decode cX5_putTogether 37 = .ok (.iload_n 3, 1) := by decide +kernel
theorem dX5_putTogether_38 : decode cX5_putTogether 38 = .ok (.iastore, 1) := by decide +kernel
theorem dX5_putTogether_39 : decode cX5_putTogether 39 = .ok (.iinc 3 (-1), 3) := by decide +kernel
theorem dX5_putTogether_42 : decode cX5_putTogether 42 = .ok (.goto (-30), 3) := by decide +kernel
theorem dX5_putTogether_45 : decode cX5_putTogether 45 = .ok (.aload_n 0, 1) := by decide +kernel
theorem dX5_putTogether_46 : decode cX5_putTogether 46 = .ok (.dup, 1) := by decide +kernel
theorem dX5_putTogether_47 : decode cX5_putTogether 47 = .ok (.getfield 69, 3) := by decide +kernel
theorem dX5_putTogether_50 : decode cX5_putTogether 50 = .ok (.iconst 1, 1) := by decide +kernel
theorem dX5_putTogether_51 : decode cX5_putTogether 51 = .ok (.aload_n 0, 1) := by decide +kernel
theorem dX5_putTogether_52 : decode cX5_putTogether 52 = .ok (.getfield 9, 3) := by decide +kernel
theorem dX5_putTogether_55 : decode cX5_putTogether 55 = .ok (.iload_n 2, 1) := by decide +kernel
theorem dX5_putTogether_56 : decode cX5_putTogether 56 = .ok (.iaload, 1) := by decide +kernel
theorem dX5_putTogether_57 : decode cX5_putTogether 57 = .ok (.ishl, 1) := by decide +kernel
theorem dX5_putTogether_58 : decode cX5_putTogether 58 = .ok (.ior, 1) := by decide +kernel
theorem dX5_putTogether_59 : decode cX5_putTogether 59 = .ok (.putfield 69, 3) := by decide +kernel
theorem dX5_putTogether_62 : decode cX5_putTogether 62 = .ok (.return_, 1) := by decide +kernel
theorem dX5_noteBefore_0 : decode cX5_noteBefore 0 = .ok (.iload_n 2, 1) := by decide +kernel
theorem dX5_noteBefore_1 : decode cX5_noteBefore 1 = .ok (.invokestatic 36, 3) := by decide +kernel
theorem dX5_noteBefore_4 : decode cX5_noteBefore 4 = .ok (.ifCond .ne 4, 3) := by decide +kernel
theorem dX5_noteBefore_7 : decode cX5_noteBefore 7 = .ok (.return_, 1) := by decide +kernel
theorem dX5_noteBefore_8 : decode cX5_noteBefore 8 = .ok (.iconst 0, 1) := by decide +kernel
theorem dX5_noteBefore_9 : decode cX5_noteBefore 9 = .ok (.istore_n 3, 1) := by decide +kernel
theorem dX5_noteBefore_10 : decode cX5_noteBefore 10 = .ok (.iload_n 3, 1) := by decide +kernel
theorem dX5_noteBefore_11 : decode cX5_noteBefore 11 = .ok (.bipush 8, 2) := by decide +kernel
theorem dX5_noteBefore_13 : decode cX5_noteBefore 13 = .ok (.if_icmp .ge 47, 3) := by decide +kernel
theorem dX5_noteBefore_16 : decode cX5_noteBefore 16 = .ok (.aload_n 0, 1) := by decide +kernel
theorem dX5_noteBefore_17 : decode cX5_noteBefore 17 = .ok (.getfield 69, 3) := by decide +kernel
theorem dX5_noteBefore_20 : decode cX5_noteBefore 20 = .ok (.iload_n 3, 1) := by decide +kernel
theorem dX5_noteBefore_21 : decode cX5_noteBefore 21 = .ok (.invokestatic 79, 3) := by decide +kernel
theorem dX5_noteBefore_24 : decode cX5_noteBefore 24 = .ok (.ifCond .eq 30, 3) := by decide +kernel
theorem dX5_noteBefore_27 : decode cX5_noteBefore 27 = .ok (.aload_n 1, 1) := by decide +kernel
theorem dX5_noteBefore_28 : decode cX5_noteBefore 28 = .ok (.iload_n 3, 1) := by decide +kernel
theorem dX5_noteBefore_29 : decode cX5_noteBefore 29 = .ok (.invokestatic 72, 3) := by decide +kernel
theorem dX5_noteBefore_32 : decode cX5_noteBefore 32 = .ok (.iload_n 2, 1) := by decide +kernel
theorem dX5_noteBefore_33 : decode cX5_noteBefore 33 = .ok (.invokestatic 72, 3) := by decide +kernel
theorem dX5_noteBefore_36 : decode cX5_noteBefore 36 = .ok (.invokevirtual 83, 3) := by decide +kernel
theorem dX5_noteBefore_39 : decode cX5_noteBefore 39 = .ok (.ifCond .eq 15, 3) := by decide +kernel
theorem dX5_noteBefore_42 : decode cX5_noteBefore 42 = .ok (.aload_n 0, 1) := by decide +kernel
theorem dX5_noteBefore_43 : decode cX5_noteBefore 43 = .ok (.getfield 15, 3) := by decide +kernel
theorem dX5_noteBefore_46 : decode cX5_noteBefore 46 = .ok (.iload_n 2, 1) := by decide +kernel
theorem dX5_noteBefore_47 : decode cX5_noteBefore 47 = .ok (.dup2, 1) := by decide +kernel
theorem dX5_noteBefore_48 : decode cX5_noteBefore 48 = .ok (.iaload, 1) := by decide +kernel
theorem dX5_noteBefore_49 : decode cX5_noteBefore 49 = .ok (.iconst 1, 1) := by decide +kernel
theorem dX5_noteBefore_50 : decode cX5_noteBefore 50 = .ok (.iload_n 3, 1) := by decide +kernel
theorem dX5_noteBefore_51 : decode cX5_noteBefore 51 = .ok (.ishl, 1) := by decide +kernel
theorem dX5_noteBefore_52 : decode cX5_noteBefore 52 = .ok (.ior, 1) := by decide +kernel
theorem dX5_noteBefore_53 : decode cX5_noteBefore 53 = .ok (.iastore, 1) := by decide +kernel
theorem dX5_noteBefore_54 : decode cX5_noteBefore 54 = .ok (.iinc 3 1, 3) := by decide +kernel
theorem dX5_noteBefore_57 : decode cX5_noteBefore 57 = .ok (.goto (-47), 3) := by decide +kernel
theorem dX5_noteBefore_60 : decode cX5_noteBefore 60 = .ok (.return_, 1) := by decide +kernel
theorem dX5_ready_0 : decode cX5_ready 0 = .ok (.iconst 0, 1) := by decide +kernel
theorem dX5_ready_1 : decode cX5_ready 1 = .ok (.istore_n 2, 1) := by decide +kernel
theorem dX5_ready_2 : decode cX5_ready 2 = .ok (.iconst 0, 1) := by decide +kernel
theorem dX5_ready_3 : decode cX5_ready 3 = .ok (.istore_n 3, 1) := by decide +kernel
theorem dX5_ready_4 : decode cX5_ready 4 = .ok (.iload_n 3, 1) := by decide +kernel
theorem dX5_ready_5 : decode cX5_ready 5 = .ok (.bipush 8, 2) := by decide +kernel
theorem dX5_ready_7 : decode cX5_ready 7 = .ok (.if_icmp .ge 43, 3) := by decide +kernel
theorem dX5_ready_10 : decode cX5_ready 10 = .ok (.aload_n 0, 1) := by decide +kernel
theorem dX5_ready_11 : decode cX5_ready 11 = .ok (.getfield 69, 3) := by decide +kernel
theorem dX5_ready_14 : decode cX5_ready 14 = .ok (.iload_n 1, 1) := by decide +kernel
theorem dX5_ready_15 : decode cX5_ready 15 = .ok (.iconst (-1), 1) := by decide +kernel
theorem dX5_ready_16 : decode cX5_ready 16 = .ok (.ixor, 1) := by decide +kernel
theorem dX5_ready_17 : decode cX5_ready 17 = .ok (.iand, 1) := by decide +kernel
theorem dX5_ready_18 : decode cX5_ready 18 = .ok (.iload_n 3, 1) := by decide +kernel
theorem dX5_ready_19 : decode cX5_ready 19 = .ok (.invokestatic 79, 3) := by decide +kernel
theorem dX5_ready_22 : decode cX5_ready 22 = .ok (.ifCond .eq 22, 3) := by decide +kernel
theorem dX5_ready_25 : decode cX5_ready 25 = .ok (.aload_n 0, 1) := by decide +kernel
theorem dX5_ready_26 : decode cX5_ready 26 = .ok (.getfield 15, 3) := by decide +kernel
theorem dX5_ready_29 : decode cX5_ready 29 = .ok (.iload_n 3, 1) := by decide +kernel
theorem dX5_ready_30 : decode cX5_ready 30 = .ok (.iaload, 1) := by decide +kernel
theorem dX5_ready_31 : decode cX5_ready 31 = .ok (.iload_n 1, 1) := by decide +kernel
theorem dX5_ready_32 : decode cX5_ready 32 = .ok (.iconst (-1), 1) := by decide +kernel
theorem dX5_ready_33 : decode cX5_ready 33 = .ok (.ixor, 1) := by decide +kernel
theorem dX5_ready_34 : decode cX5_ready 34 = .ok (.iand, 1) := by decide +kernel
theorem dX5_ready_35 : decode cX5_ready 35 = .ok (.ifCond .ne 9, 3) := by decide +kernel
theorem dX5_ready_38 : decode cX5_ready 38 = .ok (.iload_n 2, 1) := by decide +kernel
theorem dX5_ready_39 : decode cX5_ready 39 = .ok (.iconst 1, 1) := by decide +kernel
theorem dX5_ready_40 : decode cX5_ready 40 = .ok (.iload_n 3, 1) := by decide +kernel
theorem dX5_ready_41 : decode cX5_ready 41 = .ok (.ishl, 1) := by decide +kernel
theorem dX5_ready_42 : decode cX5_ready 42 = .ok (.ior, 1) := by decide +kernel
theorem dX5_ready_43 : decode cX5_ready 43 = .ok (.istore_n 2, 1) := by decide +kernel
theorem dX5_ready_44 : decode cX5_ready 44 = .ok (.iinc 3 1, 3) := by decide +kernel
theorem dX5_ready_47 : decode cX5_ready 47 = .ok (.goto (-43), 3) := by decide +kernel
theorem dX5_ready_50 : decode cX5_ready 50 = .ok (.iload_n 2, 1) := by decide +kernel
theorem dX5_ready_51 : decode cX5_ready 51 = .ok (.ireturn, 1) := by decide +kernel
theorem dX5_countOn_0 : decode cX5_countOn 0 = .ok (.sipush 255, 3) := by decide +kernel
theorem dX5_countOn_3 : decode cX5_countOn 3 = .ok (.istore_n 1, 1) := by decide +kernel
theorem dX5_countOn_4 : decode cX5_countOn 4 = .ok (.iload_n 1, 1) := by decide +kernel
theorem dX5_countOn_5 : decode cX5_countOn 5 = .ok (.ifCond .lt 85, 3) := by decide +kernel
theorem dX5_countOn_8 : decode cX5_countOn 8 = .ok (.iload_n 1, 1) := by decide +kernel
theorem dX5_countOn_9 : decode cX5_countOn 9 = .ok (.aload_n 0, 1) := by decide +kernel
theorem dX5_countOn_10 : decode cX5_countOn 10 = .ok (.getfield 69, 3) := by decide +kernel
theorem dX5_countOn_13 : decode cX5_countOn 13 = .ok (.iconst (-1), 1) := by decide +kernel
theorem dX5_countOn_14 : decode cX5_countOn 14 = .ok (.ixor, 1) := by decide +kernel
theorem dX5_countOn_15 : decode cX5_countOn 15 = .ok (.iand, 1) := by decide +kernel
theorem dX5_countOn_16 : decode cX5_countOn 16 = .ok (.ifCond .eq 6, 3) := by decide +kernel
theorem dX5_countOn_19 : decode cX5_countOn 19 = .ok (.goto 65, 3) := by decide +kernel
theorem dX5_countOn_22 : decode cX5_countOn 22 = .ok (.aload_n 0, 1) := by decide +kernel
theorem dX5_countOn_23 : decode cX5_countOn 23 = .ok (.iload_n 1, 1) := by decide +kernel
theorem dX5_countOn_24 : decode cX5_countOn 24 = .ok (.invokevirtual 86, 3) := by decide +kernel
theorem dX5_countOn_27 : decode cX5_countOn 27 = .ok (.istore_n 2, 1) := by decide +kernel
theorem dX5_countOn_28 : decode cX5_countOn 28 = .ok (.iload_n 1, 1) := by decide +kernel
theorem dX5_countOn_29 : decode cX5_countOn 29 = .ok (.aload_n 0, 1) := by decide +kernel
theorem dX5_countOn_30 : decode cX5_countOn 30 = .ok (.getfield 69, 3) := by decide +kernel
theorem dX5_countOn_33 : decode cX5_countOn 33 = .ok (.if_icmp .ne 7, 3) := by decide +kernel
theorem dX5_countOn_36 : decode cX5_countOn 36 = .ok (.iconst 1, 1) := by decide +kernel
theorem dX5_countOn_37 : decode cX5_countOn 37 = .ok (.goto 4, 3) := by decide +kernel
theorem dX5_countOn_40 : decode cX5_countOn 40 = .ok (.iconst 0, 1) := by decide +kernel
theorem dX5_countOn_41 : decode cX5_countOn 41 = .ok (.istore_n 3, 1) := by decide +kernel
theorem dX5_countOn_42 : decode cX5_countOn 42 = .ok (.iload_n 2, 1) := by decide +kernel
theorem dX5_countOn_43 : decode cX5_countOn 43 = .ok (.istore 4, 2) := by decide +kernel
theorem dX5_countOn_45 : decode cX5_countOn 45 = .ok (.iload 4, 2) := by decide +kernel
theorem dX5_countOn_47 : decode cX5_countOn 47 = .ok (.ifCond .le 30, 3) := by decide +kernel
theorem dX5_countOn_50 : decode cX5_countOn 50 = .ok (.iload_n 3, 1) := by decide +kernel
theorem dX5_countOn_51 : decode cX5_countOn 51 = .ok (.aload_n 0, 1) := by decide +kernel
theorem dX5_countOn_52 : decode cX5_countOn 52 = .ok (.getfield 21, 3) := by decide +kernel
theorem dX5_countOn_55 : decode cX5_countOn 55 = .ok (.iload_n 1, 1) := by decide +kernel
theorem dX5_countOn_56 : decode cX5_countOn 56 = .ok (.iload 4, 2) := by decide +kernel
theorem dX5_countOn_58 : decode cX5_countOn 58 = .ok (.ior, 1) := by decide +kernel
theorem dX5_countOn_59 : decode cX5_countOn 59 = .ok (.sipush 255, 3) := by decide +kernel
theorem dX5_countOn_62 : decode cX5_countOn 62 = .ok (.iand, 1) := by decide +kernel
theorem dX5_countOn_63 : decode cX5_countOn 63 = .ok (.iaload, 1) := by decide +kernel
theorem dX5_countOn_64 : decode cX5_countOn 64 = .ok (.iadd, 1) := by decide +kernel
theorem dX5_countOn_65 : decode cX5_countOn 65 = .ok (.istore_n 3, 1) := by decide +kernel
theorem dX5_countOn_66 : decode cX5_countOn 66 = .ok (.iload 4, 2) := by decide +kernel
theorem dX5_countOn_68 : decode cX5_countOn 68 = .ok (.iconst 1, 1) := by decide +kernel
theorem dX5_countOn_69 : decode cX5_countOn 69 = .ok (.isub, 1) := by decide +kernel
theorem dX5_countOn_70 : decode cX5_countOn 70 = .ok (.iload_n 2, 1) := by decide +kernel
theorem dX5_countOn_71 : decode cX5_countOn 71 = .ok (.iand, 1) := by decide +kernel
theorem dX5_countOn_72 : decode cX5_countOn 72 = .ok (.istore 4, 2) := by decide +kernel
theorem dX5_countOn_74 : decode cX5_countOn 74 = .ok (.goto (-29), 3) := by decide +kernel
theorem dX5_countOn_77 : decode cX5_countOn 77 = .ok (.aload_n 0, 1) := by decide +kernel
theorem dX5_countOn_78 : decode cX5_countOn 78 = .ok (.getfield 21, 3) := by decide +kernel
theorem dX5_countOn_81 : decode cX5_countOn 81 = .ok (.iload_n 1, 1) := by decide +kernel
theorem dX5_countOn_82 : decode cX5_countOn 82 = .ok (.iload_n 3, 1) := by decide +kernel
theorem dX5_countOn_83 : decode cX5_countOn 83 = .ok (.iastore, 1) := by decide +kernel
theorem dX5_countOn_84 : decode cX5_countOn 84 = .ok (.iinc 1 (-1), 3) := by decide +kernel
theorem dX5_countOn_87 : decode cX5_countOn 87 = .ok (.goto (-83), 3) := by decide +kernel
theorem dX5_countOn_90 : decode cX5_countOn 90 = .ok (.return_, 1) := by decide +kernel
theorem dX5_compare_0 : decode cX5_compare 0 = .ok (.aload_n 0, 1) := by decide +kernel
theorem dX5_compare_1 : decode cX5_compare 1 = .ok (.getfield 18, 3) := by decide +kernel
theorem dX5_compare_4 : decode cX5_compare 4 = .ok (.iconst 0, 1) := by decide +kernel
theorem dX5_compare_5 : decode cX5_compare 5 = .ok (.aload_n 0, 1) := by decide +kernel
theorem dX5_compare_6 : decode cX5_compare 6 = .ok (.getfield 32, 3) := by decide +kernel
theorem dX5_compare_9 : decode cX5_compare 9 = .ok (.ifCond .ne 7, 3) := by decide +kernel
theorem dX5_compare_12 : decode cX5_compare 12 = .ok (.iconst 0, 1) := by decide +kernel
theorem dX5_compare_13 : decode cX5_compare 13 = .ok (.goto 4, 3) := by decide +kernel
theorem dX5_compare_16 : decode cX5_compare 16 = .ok (.iconst 1, 1) := by decide +kernel
theorem dX5_compare_17 : decode cX5_compare 17 = .ok (.iastore, 1) := by decide +kernel
theorem dX5_compare_18 : decode cX5_compare 18 = .ok (.iconst 0, 1) := by decide +kernel
theorem dX5_compare_19 : decode cX5_compare 19 = .ok (.istore_n 1, 1) := by decide +kernel
theorem dX5_compare_20 : decode cX5_compare 20 = .ok (.iload_n 1, 1) := by decide +kernel
theorem dX5_compare_21 : decode cX5_compare 21 = .ok (.sipush 256, 3) := by decide +kernel
theorem dX5_compare_24 : decode cX5_compare 24 = .ok (.if_icmp .ge 112, 3) := by decide +kernel
theorem dX5_compare_27 : decode cX5_compare 27 = .ok (.aload_n 0, 1) := by decide +kernel
theorem dX5_compare_28 : decode cX5_compare 28 = .ok (.getfield 18, 3) := by decide +kernel
theorem dX5_compare_31 : decode cX5_compare 31 = .ok (.iload_n 1, 1) := by decide +kernel
theorem dX5_compare_32 : decode cX5_compare 32 = .ok (.iaload, 1) := by decide +kernel
theorem dX5_compare_33 : decode cX5_compare 33 = .ok (.ifCond .ne 6, 3) := by decide +kernel
theorem dX5_compare_36 : decode cX5_compare 36 = .ok (.goto 94, 3) := by decide +kernel
theorem dX5_compare_39 : decode cX5_compare 39 = .ok (.aload_n 0, 1) := by decide +kernel
theorem dX5_compare_40 : decode cX5_compare 40 = .ok (.iload_n 1, 1) := by decide +kernel
theorem dX5_compare_41 : decode cX5_compare 41 = .ok (.invokevirtual 86, 3) := by decide +kernel
theorem dX5_compare_44 : decode cX5_compare 44 = .ok (.istore_n 2, 1) := by decide +kernel
theorem dX5_compare_45 : decode cX5_compare 45 = .ok (.iconst 0, 1) := by decide +kernel
theorem dX5_compare_46 : decode cX5_compare 46 = .ok (.istore_n 3, 1) := by decide +kernel
theorem dX5_compare_47 : decode cX5_compare 47 = .ok (.iload_n 3, 1) := by decide +kernel
theorem dX5_compare_48 : decode cX5_compare 48 = .ok (.bipush 8, 2) := by decide +kernel
theorem dX5_compare_50 : decode cX5_compare 50 = .ok (.if_icmp .ge 16, 3) := by decide +kernel
theorem dX5_compare_53 : decode cX5_compare 53 = .ok (.aload_n 0, 1) := by decide +kernel
theorem dX5_compare_54 : decode cX5_compare 54 = .ok (.getfield 24, 3) := by decide +kernel
theorem dX5_compare_57 : decode cX5_compare 57 = .ok (.iload_n 3, 1) := by decide +kernel
theorem dX5_compare_58 : decode cX5_compare 58 = .ok (.iconst 0, 1) := by decide +kernel
theorem dX5_compare_59 : decode cX5_compare 59 = .ok (.iastore, 1) := by decide +kernel
theorem dX5_compare_60 : decode cX5_compare 60 = .ok (.iinc 3 1, 3) := by decide +kernel
theorem dX5_compare_63 : decode cX5_compare 63 = .ok (.goto (-16), 3) := by decide +kernel
theorem dX5_compare_66 : decode cX5_compare 66 = .ok (.iload_n 2, 1) := by decide +kernel
theorem dX5_compare_67 : decode cX5_compare 67 = .ok (.istore_n 3, 1) := by decide +kernel
theorem dX5_compare_68 : decode cX5_compare 68 = .ok (.iload_n 3, 1) := by decide +kernel
theorem dX5_compare_69 : decode cX5_compare 69 = .ok (.ifCond .le 56, 3) := by decide +kernel
theorem dX5_compare_72 : decode cX5_compare 72 = .ok (.iload_n 1, 1) := by decide +kernel
theorem dX5_compare_73 : decode cX5_compare 73 = .ok (.iload_n 3, 1) := by decide +kernel
theorem dX5_compare_74 : decode cX5_compare 74 = .ok (.ior, 1) := by decide +kernel
theorem dX5_compare_75 : decode cX5_compare 75 = .ok (.sipush 255, 3) := by decide +kernel
theorem dX5_compare_78 : decode cX5_compare 78 = .ok (.iand, 1) := by decide +kernel
theorem dX5_compare_79 : decode cX5_compare 79 = .ok (.istore 4, 2) := by decide +kernel
theorem dX5_compare_81 : decode cX5_compare 81 = .ok (.aload_n 0, 1) := by decide +kernel
theorem dX5_compare_82 : decode cX5_compare 82 = .ok (.getfield 18, 3) := by decide +kernel
theorem dX5_compare_85 : decode cX5_compare 85 = .ok (.iload 4, 2) := by decide +kernel
theorem dX5_compare_87 : decode cX5_compare 87 = .ok (.dup2, 1) := by decide +kernel
theorem dX5_compare_88 : decode cX5_compare 88 = .ok (.iaload, 1) := by decide +kernel
theorem dX5_compare_89 : decode cX5_compare 89 = .ok (.aload_n 0, 1) := by decide +kernel
theorem dX5_compare_90 : decode cX5_compare 90 = .ok (.getfield 18, 3) := by decide +kernel
theorem dX5_compare_93 : decode cX5_compare 93 = .ok (.iload_n 1, 1) := by decide +kernel
theorem dX5_compare_94 : decode cX5_compare 94 = .ok (.iaload, 1) := by decide +kernel
theorem dX5_compare_95 : decode cX5_compare 95 = .ok (.iadd, 1) := by decide +kernel
theorem dX5_compare_96 : decode cX5_compare 96 = .ok (.iastore, 1) := by decide +kernel
theorem dX5_compare_97 : decode cX5_compare 97 = .ok (.aload_n 0, 1) := by decide +kernel
theorem dX5_compare_98 : decode cX5_compare 98 = .ok (.iload_n 3, 1) := by decide +kernel
theorem dX5_compare_99 : decode cX5_compare 99 = .ok (.aload_n 0, 1) := by decide +kernel
theorem dX5_compare_100 : decode cX5_compare 100 = .ok (.getfield 18, 3) := by decide +kernel
theorem dX5_compare_103 : decode cX5_compare 103 = .ok (.iload_n 1, 1) := by decide +kernel
theorem dX5_compare_104 : decode cX5_compare 104 = .ok (.iaload, 1) := by decide +kernel
theorem dX5_compare_105 : decode cX5_compare 105 = .ok (.aload_n 0, 1) := by decide +kernel
theorem dX5_compare_106 : decode cX5_compare 106 = .ok (.getfield 21, 3) := by decide +kernel
theorem dX5_compare_109 : decode cX5_compare 109 = .ok (.iload 4, 2) := by decide +kernel
theorem dX5_compare_111 : decode cX5_compare 111 = .ok (.iaload, 1) := by decide +kernel
theorem dX5_compare_112 : decode cX5_compare 112 = .ok (.imul, 1) := by decide +kernel
theorem dX5_compare_113 : decode cX5_compare 113 = .ok (.invokevirtual 89, 3) := by decide +kernel
theorem dX5_compare_116 : decode cX5_compare 116 = .ok (.iload_n 3, 1) := by decide +kernel
theorem dX5_compare_117 : decode cX5_compare 117 = .ok (.iconst 1, 1) := by decide +kernel
theorem dX5_compare_118 : decode cX5_compare 118 = .ok (.isub, 1) := by decide +kernel
theorem dX5_compare_119 : decode cX5_compare 119 = .ok (.iload_n 2, 1) := by decide +kernel
theorem dX5_compare_120 : decode cX5_compare 120 = .ok (.iand, 1) := by decide +kernel
theorem dX5_compare_121 : decode cX5_compare 121 = .ok (.istore_n 3, 1) := by decide +kernel
theorem dX5_compare_122 : decode cX5_compare 122 = .ok (.goto (-54), 3) := by decide +kernel
theorem dX5_compare_125 : decode cX5_compare 125 = .ok (.aload_n 0, 1) := by decide +kernel
theorem dX5_compare_126 : decode cX5_compare 126 = .ok (.iload_n 1, 1) := by decide +kernel
theorem dX5_compare_127 : decode cX5_compare 127 = .ok (.invokevirtual 93, 3) := by decide +kernel
theorem dX5_compare_130 : decode cX5_compare 130 = .ok (.iinc 1 1, 3) := by decide +kernel
theorem dX5_compare_133 : decode cX5_compare 133 = .ok (.goto (-113), 3) := by decide +kernel
theorem dX5_compare_136 : decode cX5_compare 136 = .ok (.return_, 1) := by decide +kernel
theorem dX5_noteJoining_0 : decode cX5_noteJoining 0 = .ok (.iconst 0, 1) := by decide +kernel
theorem dX5_noteJoining_1 : decode cX5_noteJoining 1 = .ok (.istore_n 3, 1) := by decide +kernel
theorem dX5_noteJoining_2 : decode cX5_noteJoining 2 = .ok (.iload_n 3, 1) := by decide +kernel
theorem dX5_noteJoining_3 : decode cX5_noteJoining 3 = .ok (.bipush 8, 2) := by decide +kernel
theorem dX5_noteJoining_5 : decode cX5_noteJoining 5 = .ok (.if_icmp .ge 27, 3) := by decide +kernel
theorem dX5_noteJoining_8 : decode cX5_noteJoining 8 = .ok (.iload_n 1, 1) := by decide +kernel
theorem dX5_noteJoining_9 : decode cX5_noteJoining 9 = .ok (.iload_n 3, 1) := by decide +kernel
theorem dX5_noteJoining_10 : decode cX5_noteJoining 10 = .ok (.invokestatic 79, 3) := by decide +kernel
theorem dX5_noteJoining_13 : decode cX5_noteJoining 13 = .ok (.ifCond .eq 13, 3) := by decide +kernel
theorem dX5_noteJoining_16 : decode cX5_noteJoining 16 = .ok (.aload_n 0, 1) := by decide +kernel
theorem dX5_noteJoining_17 : decode cX5_noteJoining 17 = .ok (.getfield 24, 3) := by decide +kernel
theorem dX5_noteJoining_20 : decode cX5_noteJoining 20 = .ok (.iload_n 3, 1) := by decide +kernel
theorem dX5_noteJoining_21 : decode cX5_noteJoining 21 = .ok (.dup2, 1) := by decide +kernel
theorem dX5_noteJoining_22 : decode cX5_noteJoining 22 = .ok (.iaload, 1) := by decide +kernel
theorem dX5_noteJoining_23 : decode cX5_noteJoining 23 = .ok (.iload_n 2, 1) := by decide +kernel
theorem dX5_noteJoining_24 : decode cX5_noteJoining 24 = .ok (.iadd, 1) := by decide +kernel
theorem dX5_noteJoining_25 : decode cX5_noteJoining 25 = .ok (.iastore, 1) := by decide +kernel
theorem dX5_noteJoining_26 : decode cX5_noteJoining 26 = .ok (.iinc 3 1, 3) := by decide +kernel
theorem dX5_noteJoining_29 : decode cX5_noteJoining 29 = .ok (.goto (-27), 3) := by decide +kernel
theorem dX5_noteJoining_32 : decode cX5_noteJoining 32 = .ok (.return_, 1) := by decide +kernel
theorem dX5_noteAhead_0 : decode cX5_noteAhead 0 = .ok (.iconst 0, 1) := by decide +kernel
theorem dX5_noteAhead_1 : decode cX5_noteAhead 1 = .ok (.istore_n 2, 1) := by decide +kernel
theorem dX5_noteAhead_2 : decode cX5_noteAhead 2 = .ok (.iload_n 2, 1) := by decide +kernel
theorem dX5_noteAhead_3 : decode cX5_noteAhead 3 = .ok (.bipush 8, 2) := by decide +kernel
theorem dX5_noteAhead_5 : decode cX5_noteAhead 5 = .ok (.if_icmp .ge 48, 3) := by decide +kernel
theorem dX5_noteAhead_8 : decode cX5_noteAhead 8 = .ok (.iload_n 1, 1) := by decide +kernel
theorem dX5_noteAhead_9 : decode cX5_noteAhead 9 = .ok (.iload_n 2, 1) := by decide +kernel
theorem dX5_noteAhead_10 : decode cX5_noteAhead 10 = .ok (.invokestatic 79, 3) := by decide +kernel
theorem dX5_noteAhead_13 : decode cX5_noteAhead 13 = .ok (.ifCond .eq 34, 3) := by decide +kernel
theorem dX5_noteAhead_16 : decode cX5_noteAhead 16 = .ok (.iconst 0, 1) := by decide +kernel
theorem dX5_noteAhead_17 : decode cX5_noteAhead 17 = .ok (.istore_n 3, 1) := by decide +kernel
theorem dX5_noteAhead_18 : decode cX5_noteAhead 18 = .ok (.iload_n 3, 1) := by decide +kernel
theorem dX5_noteAhead_19 : decode cX5_noteAhead 19 = .ok (.bipush 8, 2) := by decide +kernel
theorem dX5_noteAhead_21 : decode cX5_noteAhead 21 = .ok (.if_icmp .ge 26, 3) := by decide +kernel
theorem dX5_noteAhead_24 : decode cX5_noteAhead 24 = .ok (.aload_n 0, 1) := by decide +kernel
theorem dX5_noteAhead_25 : decode cX5_noteAhead 25 = .ok (.getfield 29, 3) := by decide +kernel
theorem dX5_noteAhead_28 : decode cX5_noteAhead 28 = .ok (.iload_n 2, 1) := by decide +kernel
theorem dX5_noteAhead_29 : decode cX5_noteAhead 29 = .ok (.aaload, 1) := by decide +kernel
theorem dX5_noteAhead_30 : decode cX5_noteAhead 30 = .ok (.iload_n 3, 1) := by decide +kernel
theorem dX5_noteAhead_31 : decode cX5_noteAhead 31 = .ok (.dup2, 1) := by decide +kernel
theorem dX5_noteAhead_32 : decode cX5_noteAhead 32 = .ok (.iaload, 1) := by decide +kernel
theorem dX5_noteAhead_33 : decode cX5_noteAhead 33 = .ok (.aload_n 0, 1) := by decide +kernel
theorem dX5_noteAhead_34 : decode cX5_noteAhead 34 = .ok (.getfield 24, 3) := by decide +kernel
theorem dX5_noteAhead_37 : decode cX5_noteAhead 37 = .ok (.iload_n 3, 1) := by decide +kernel
theorem dX5_noteAhead_38 : decode cX5_noteAhead 38 = .ok (.iaload, 1) := by decide +kernel
theorem dX5_noteAhead_39 : decode cX5_noteAhead 39 = .ok (.iadd, 1) := by decide +kernel
theorem dX5_noteAhead_40 : decode cX5_noteAhead 40 = .ok (.iastore, 1) := by decide +kernel
theorem dX5_noteAhead_41 : decode cX5_noteAhead 41 = .ok (.iinc 3 1, 3) := by decide +kernel
theorem dX5_noteAhead_44 : decode cX5_noteAhead 44 = .ok (.goto (-26), 3) := by decide +kernel
theorem dX5_noteAhead_47 : decode cX5_noteAhead 47 = .ok (.iinc 2 1, 3) := by decide +kernel
theorem dX5_noteAhead_50 : decode cX5_noteAhead 50 = .ok (.goto (-48), 3) := by decide +kernel
theorem dX5_noteAhead_53 : decode cX5_noteAhead 53 = .ok (.return_, 1) := by decide +kernel
theorem dX5_isWithin_0 : decode cX5_isWithin 0 = .ok (.iload_n 0, 1) := by decide +kernel
theorem dX5_isWithin_1 : decode cX5_isWithin 1 = .ok (.ifCond .lt 13, 3) := by decide +kernel
theorem dX5_isWithin_4 : decode cX5_isWithin 4 = .ok (.iload_n 0, 1) := by decide +kernel
theorem dX5_isWithin_5 : decode cX5_isWithin 5 = .ok (.bipush 8, 2) := by decide +kernel
theorem dX5_isWithin_7 : decode cX5_isWithin 7 = .ok (.if_icmp .ge 7, 3) := by decide +kernel
theorem dX5_isWithin_10 : decode cX5_isWithin 10 = .ok (.iconst 1, 1) := by decide +kernel
theorem dX5_isWithin_11 : decode cX5_isWithin 11 = .ok (.goto 4, 3) := by decide +kernel
theorem dX5_isWithin_14 : decode cX5_isWithin 14 = .ok (.iconst 0, 1) := by decide +kernel
theorem dX5_isWithin_15 : decode cX5_isWithin 15 = .ok (.ireturn, 1) := by decide +kernel
