theorem dX0_init_0 : decode cX0_init 0 = .ok (.aload_n 0, 1) := by decide +kernel
theorem dX0_init_1 : decode cX0_init 1 = .ok (.invokespecial 3, 3) := by decide +kernel
theorem dX0_init_4 : decode cX0_init 4 = .ok (.aload_n 0, 1) := by decide +kernel
theorem dX0_init_5 : decode cX0_init 5 = .ok (.iconst 2, 1) := by decide +kernel
theorem dX0_init_6 : decode cX0_init 6 = .ok (.bipush 74, 2) := by decide +kernel
theorem dX0_init_8 : decode cX0_init 8 = .ok (.multianewarray 11 2, 4) := by decide +kernel
theorem dX0_init_12 : decode cX0_init 12 = .ok (.putfield 13, 3) := by decide +kernel
theorem dX0_init_15 : decode cX0_init 15 = .ok (.return_, 1) := by decide +kernel
theorem dX0_lose_0 : decode cX0_lose 0 = .ok (.aload_n 0, 1) := by decide +kernel
theorem dX0_lose_1 : decode cX0_lose 1 = .ok (.iconst 0, 1) := by decide +kernel
theorem dX0_lose_2 : decode cX0_lose 2 = .ok (.putfield 18, 3) := by decide +kernel
theorem dX0_lose_5 : decode cX0_lose 5 = .ok (.return_, 1) := by decide +kernel
theorem dX0_isKept_0 : decode cX0_isKept 0 = .ok (.aload_n 0, 1) := by decide +kernel
theorem dX0_isKept_1 : decode cX0_isKept 1 = .ok (.getfield 18, 3) := by decide +kernel
theorem dX0_isKept_4 : decode cX0_isKept 4 = .ok (.iload_n 1, 1) := by decide +kernel
theorem dX0_isKept_5 : decode cX0_isKept 5 = .ok (.invokestatic 22, 3) := by decide +kernel
theorem dX0_isKept_8 : decode cX0_isKept 8 = .ok (.ireturn, 1) := by decide +kernel
theorem dX0_store_0 : decode cX0_store 0 = .ok (.iload_n 1, 1) := by decide +kernel
theorem dX0_store_1 : decode cX0_store 1 = .ok (.ifCond .lt 34, 3) := by decide +kernel
theorem dX0_store_4 : decode cX0_store 4 = .ok (.iload_n 1, 1) := by decide +kernel
theorem dX0_store_5 : decode cX0_store 5 = .ok (.aload_n 0, 1) := by decide +kernel
theorem dX0_store_6 : decode cX0_store 6 = .ok (.getfield 13, 3) := by decide +kernel
theorem dX0_store_9 : decode cX0_store 9 = .ok (.arraylength, 1) := by decide +kernel
theorem dX0_store_10 : decode cX0_store 10 = .ok (.if_icmp .ge 25, 3) := by decide +kernel
theorem dX0_store_13 : decode cX0_store 13 = .ok (.aload_n 2, 1) := by decide +kernel
theorem dX0_store_14 : decode cX0_store 14 = .ok (.aload_n 0, 1) := by decide +kernel
theorem dX0_store_15 : decode cX0_store 15 = .ok (.getfield 13, 3) := by decide +kernel
theorem dX0_store_18 : decode cX0_store 18 = .ok (.iload_n 1, 1) := by decide +kernel
theorem dX0_store_19 : decode cX0_store 19 = .ok (.aaload, 1) := by decide +kernel
theorem dX0_store_20 : decode cX0_store 20 = .ok (.invokevirtual 26, 3) := by decide +kernel
theorem dX0_store_23 : decode cX0_store 23 = .ok (.aload_n 0, 1) := by decide +kernel
theorem dX0_store_24 : decode cX0_store 24 = .ok (.dup, 1) := by decide +kernel
theorem dX0_store_25 : decode cX0_store 25 = .ok (.getfield 18, 3) := by decide +kernel
theorem dX0_store_28 : decode cX0_store 28 = .ok (.iconst 1, 1) := by decide +kernel
theorem dX0_store_29 : decode cX0_store 29 = .ok (.iload_n 1, 1) := by decide +kernel
theorem dX0_store_30 : decode cX0_store 30 = .ok (.ishl, 1) := by decide +kernel
theorem dX0_store_31 : decode cX0_store 31 = .ok (.ior, 1) := by decide +kernel
theorem dX0_store_32 : decode cX0_store 32 = .ok (.putfield 18, 3) := by decide +kernel
theorem dX0_store_35 : decode cX0_store 35 = .ok (.return_, 1) := by decide +kernel
theorem dX0_restore_0 : decode cX0_restore 0 = .ok (.iload_n 1, 1) := by decide +kernel
theorem dX0_restore_1 : decode cX0_restore 1 = .ok (.ifCond .lt 22, 3) := by decide +kernel
theorem dX0_restore_4 : decode cX0_restore 4 = .ok (.iload_n 1, 1) := by decide +kernel
theorem dX0_restore_5 : decode cX0_restore 5 = .ok (.aload_n 0, 1) := by decide +kernel
theorem dX0_restore_6 : decode cX0_restore 6 = .ok (.getfield 13, 3) := by decide +kernel
theorem dX0_restore_9 : decode cX0_restore 9 = .ok (.arraylength, 1) := by decide +kernel
theorem dX0_restore_10 : decode cX0_restore 10 = .ok (.if_icmp .ge 13, 3) := by decide +kernel
theorem dX0_restore_13 : decode cX0_restore 13 = .ok (.aload_n 2, 1) := by decide +kernel
theorem dX0_restore_14 : decode cX0_restore 14 = .ok (.aload_n 0, 1) := by decide +kernel
theorem dX0_restore_15 : decode cX0_restore 15 = .ok (.getfield 13, 3) := by decide +kernel
theorem dX0_restore_18 : decode cX0_restore 18 = .ok (.iload_n 1, 1) := by decide +kernel
theorem dX0_restore_19 : decode cX0_restore 19 = .ok (.aaload, 1) := by decide +kernel
theorem dX0_restore_20 : decode cX0_restore 20 = .ok (.invokevirtual 30, 3) := by decide +kernel
theorem dX0_restore_23 : decode cX0_restore 23 = .ok (.return_, 1) := by decide +kernel
theorem dX1_init_0 : decode cX1_init 0 = .ok (.aload_n 0, 1) := by decide +kernel
theorem dX1_init_1 : decode cX1_init 1 = .ok (.invokespecial 3, 3) := by decide +kernel
theorem dX1_init_4 : decode cX1_init 4 = .ok (.aload_n 0, 1) := by decide +kernel
theorem dX1_init_5 : decode cX1_init 5 = .ok (.bipush 17, 2) := by decide +kernel
theorem dX1_init_7 : decode cX1_init 7 = .ok (.newarray .int, 2) := by decide +kernel
theorem dX1_init_9 : decode cX1_init 9 = .ok (.putfield 9, 3) := by decide +kernel
theorem dX1_init_12 : decode cX1_init 12 = .ok (.aload_n 0, 1) := by decide +kernel
theorem dX1_init_13 : decode cX1_init 13 = .ok (.bipush 17, 2) := by decide +kernel
theorem dX1_init_15 : decode cX1_init 15 = .ok (.newarray .int, 2) := by decide +kernel
theorem dX1_init_17 : decode cX1_init 17 = .ok (.putfield 15, 3) := by decide +kernel
theorem dX1_init_20 : decode cX1_init 20 = .ok (.return_, 1) := by decide +kernel
theorem dX1_empty_0 : decode cX1_empty 0 = .ok (.iconst 0, 1) := by decide +kernel
theorem dX1_empty_1 : decode cX1_empty 1 = .ok (.istore_n 1, 1) := by decide +kernel
theorem dX1_empty_2 : decode cX1_empty 2 = .ok (.iload_n 1, 1) := by decide +kernel
theorem dX1_empty_3 : decode cX1_empty 3 = .ok (.bipush 17, 2) := by decide +kernel
theorem dX1_empty_5 : decode cX1_empty 5 = .ok (.if_icmp .ge 25, 3) := by decide +kernel
theorem dX1_empty_8 : decode cX1_empty 8 = .ok (.aload_n 0, 1) := by decide +kernel
theorem dX1_empty_9 : decode cX1_empty 9 = .ok (.getfield 9, 3) := by decide +kernel
theorem dX1_empty_12 : decode cX1_empty 12 = .ok (.iload_n 1, 1) := by decide +kernel
theorem dX1_empty_13 : decode cX1_empty 13 = .ok (.iconst 1, 1) := by decide +kernel
theorem dX1_empty_14 : decode cX1_empty 14 = .ok (.iload_n 1, 1) := by decide +kernel
theorem dX1_empty_15 : decode cX1_empty 15 = .ok (.ishl, 1) := by decide +kernel
theorem dX1_empty_16 : decode cX1_empty 16 = .ok (.iastore, 1) := by decide +kernel
theorem dX1_empty_17 : decode cX1_empty 17 = .ok (.aload_n 0, 1) := by decide +kernel
theorem dX1_empty_18 : decode cX1_empty 18 = .ok (.getfield 15, 3) := by decide +kernel
theorem dX1_empty_21 : decode cX1_empty 21 = .ok (.iload_n 1, 1) := by decide +kernel
theorem dX1_empty_22 : decode cX1_empty 22 = .ok (.iconst 0, 1) := by decide +kernel
theorem dX1_empty_23 : decode cX1_empty 23 = .ok (.iastore, 1) := by decide +kernel
theorem dX1_empty_24 : decode cX1_empty 24 = .ok (.iinc 1 1, 3) := by decide +kernel
theorem dX1_empty_27 : decode cX1_empty 27 = .ok (.goto (-25), 3) := by decide +kernel
theorem dX1_empty_30 : decode cX1_empty 30 = .ok (.return_, 1) := by decide +kernel
theorem dX1_relate_0 : decode cX1_relate 0 = .ok (.iload_n 1, 1) := by decide +kernel
theorem dX1_relate_1 : decode cX1_relate 1 = .ok (.invokestatic 18, 3) := by decide +kernel
theorem dX1_relate_4 : decode cX1_relate 4 = .ok (.ifCond .eq 10, 3) := by decide +kernel
theorem dX1_relate_7 : decode cX1_relate 7 = .ok (.iload_n 3, 1) := by decide +kernel
theorem dX1_relate_8 : decode cX1_relate 8 = .ok (.invokestatic 18, 3) := by decide +kernel
theorem dX1_relate_11 : decode cX1_relate 11 = .ok (.ifCond .ne 4, 3) := by decide +kernel
theorem dX1_relate_14 : decode cX1_relate 14 = .ok (.return_, 1) := by decide +kernel
theorem dX1_relate_15 : decode cX1_relate 15 = .ok (.iload_n 2, 1) := by decide +kernel
theorem dX1_relate_16 : decode cX1_relate 16 = .ok (.ifCond .ne 18, 3) := by decide +kernel
theorem dX1_relate_19 : decode cX1_relate 19 = .ok (.aload_n 0, 1) := by decide +kernel
theorem dX1_relate_20 : decode cX1_relate 20 = .ok (.iload_n 1, 1) := by decide +kernel
theorem dX1_relate_21 : decode cX1_relate 21 = .ok (.iload_n 3, 1) := by decide +kernel
theorem dX1_relate_22 : decode cX1_relate 22 = .ok (.aload_n 0, 1) := by decide +kernel
theorem dX1_relate_23 : decode cX1_relate 23 = .ok (.getfield 9, 3) := by decide +kernel
theorem dX1_relate_26 : decode cX1_relate 26 = .ok (.iload_n 3, 1) := by decide +kernel
theorem dX1_relate_27 : decode cX1_relate 27 = .ok (.iaload, 1) := by decide +kernel
theorem dX1_relate_28 : decode cX1_relate 28 = .ok (.invokevirtual 22, 3) := by decide +kernel
theorem dX1_relate_31 : decode cX1_relate 31 = .ok (.goto 52, 3) := by decide +kernel
theorem dX1_relate_34 : decode cX1_relate 34 = .ok (.iload_n 2, 1) := by decide +kernel
theorem dX1_relate_35 : decode cX1_relate 35 = .ok (.iconst 2, 1) := by decide +kernel
theorem dX1_relate_36 : decode cX1_relate 36 = .ok (.if_icmp .ne 18, 3) := by decide +kernel
theorem dX1_relate_39 : decode cX1_relate 39 = .ok (.aload_n 0, 1) := by decide +kernel
theorem dX1_relate_40 : decode cX1_relate 40 = .ok (.iload_n 3, 1) := by decide +kernel
theorem dX1_relate_41 : decode cX1_relate 41 = .ok (.iload_n 1, 1) := by decide +kernel
theorem dX1_relate_42 : decode cX1_relate 42 = .ok (.aload_n 0, 1) := by decide +kernel
theorem dX1_relate_43 : decode cX1_relate 43 = .ok (.getfield 9, 3) := by decide +kernel
theorem dX1_relate_46 : decode cX1_relate 46 = .ok (.iload_n 1, 1) := by decide +kernel
theorem dX1_relate_47 : decode cX1_relate 47 = .ok (.iaload, 1) := by decide +kernel
theorem dX1_relate_48 : decode cX1_relate 48 = .ok (.invokevirtual 22, 3) := by decide +kernel
theorem dX1_relate_51 : decode cX1_relate 51 = .ok (.goto 32, 3) := by decide +kernel
theorem dX1_relate_54 : decode cX1_relate 54 = .ok (.iload_n 2, 1) := by decide +kernel
theorem dX1_relate_55 : decode cX1_relate 55 = .ok (.iconst 1, 1) := by decide +kernel
theorem dX1_relate_56 : decode cX1_relate 56 = .ok (.if_icmp .ne 27, 3) := by decide +kernel
theorem dX1_relate_59 : decode cX1_relate 59 = .ok (.aload_n 0, 1) := by decide +kernel
theorem dX1_relate_60 : decode cX1_relate 60 = .ok (.iload_n 1, 1) := by decide +kernel
theorem dX1_relate_61 : decode cX1_relate 61 = .ok (.iload_n 3, 1) := by decide +kernel
theorem dX1_relate_62 : decode cX1_relate 62 = .ok (.aload_n 0, 1) := by decide +kernel
theorem dX1_relate_63 : decode cX1_relate 63 = .ok (.getfield 15, 3) := by decide +kernel
theorem dX1_relate_66 : decode cX1_relate 66 = .ok (.iload_n 3, 1) := by decide +kernel
theorem dX1_relate_67 : decode cX1_relate 67 = .ok (.iaload, 1) := by decide +kernel
theorem dX1_relate_68 : decode cX1_relate 68 = .ok (.invokevirtual 22, 3) := by decide +kernel
theorem dX1_relate_71 : decode cX1_relate 71 = .ok (.aload_n 0, 1) := by decide +kernel
theorem dX1_relate_72 : decode cX1_relate 72 = .ok (.iload_n 3, 1) := by decide +kernel
theorem dX1_relate_73 : decode cX1_relate 73 = .ok (.iload_n 1, 1) := by decide +kernel
theorem dX1_relate_74 : decode cX1_relate 74 = .ok (.aload_n 0, 1) := by decide +kernel
theorem dX1_relate_75 : decode cX1_relate 75 = .ok (.getfield 15, 3) := by decide +kernel
theorem dX1_relate_78 : decode cX1_relate 78 = .ok (.iload_n 1, 1) := by decide +kernel
theorem dX1_relate_79 : decode cX1_relate 79 = .ok (.iaload, 1) := by decide +kernel
theorem dX1_relate_80 : decode cX1_relate 80 = .ok (.invokevirtual 22, 3) := by decide +kernel
theorem dX1_relate_83 : decode cX1_relate 83 = .ok (.return_, 1) := by decide +kernel
theorem dX1_chain_0 : decode cX1_chain 0 = .ok (.iload_n 1, 1) := by decide +kernel
theorem dX1_chain_1 : decode cX1_chain 1 = .ok (.invokestatic 18, 3) := by decide +kernel
theorem dX1_chain_4 : decode cX1_chain 4 = .ok (.ifCond .eq 10, 3) := by decide +kernel
theorem dX1_chain_7 : decode cX1_chain 7 = .ok (.iload_n 2, 1) := by decide +kernel
theorem dX1_chain_8 : decode cX1_chain 8 = .ok (.invokestatic 18, 3) := by decide +kernel
theorem dX1_chain_11 : decode cX1_chain 11 = .ok (.ifCond .ne 4, 3) := by decide +kernel
theorem dX1_chain_14 : decode cX1_chain 14 = .ok (.return_, 1) := by decide +kernel
theorem dX1_chain_15 : decode cX1_chain 15 = .ok (.aload_n 0, 1) := by decide +kernel
theorem dX1_chain_16 : decode cX1_chain 16 = .ok (.getfield 9, 3) := by decide +kernel
theorem dX1_chain_19 : decode cX1_chain 19 = .ok (.iload_n 2, 1) := by decide +kernel
theorem dX1_chain_20 : decode cX1_chain 20 = .ok (.iaload, 1) := by decide +kernel
theorem dX1_chain_21 : decode cX1_chain 21 = .ok (.istore 4, 2) := by decide +kernel
theorem dX1_chain_23 : decode cX1_chain 23 = .ok (.iconst 0, 1) := by decide +kernel
theorem dX1_chain_24 : decode cX1_chain 24 = .ok (.istore 5, 2) := by decide +kernel
theorem dX1_chain_26 : decode cX1_chain 26 = .ok (.iload 5, 2) := by decide +kernel
theorem dX1_chain_28 : decode cX1_chain 28 = .ok (.bipush 17, 2) := by decide +kernel
theorem dX1_chain_30 : decode cX1_chain 30 = .ok (.if_icmp .ge 65, 3) := by decide +kernel
theorem dX1_chain_33 : decode cX1_chain 33 = .ok (.aload_n 0, 1) := by decide +kernel
theorem dX1_chain_34 : decode cX1_chain 34 = .ok (.getfield 9, 3) := by decide +kernel
theorem dX1_chain_37 : decode cX1_chain 37 = .ok (.iload 5, 2) := by decide +kernel
theorem dX1_chain_39 : decode cX1_chain 39 = .ok (.iaload, 1) := by decide +kernel
theorem dX1_chain_40 : decode cX1_chain 40 = .ok (.iload_n 1, 1) := by decide +kernel
theorem dX1_chain_41 : decode cX1_chain 41 = .ok (.invokestatic 26, 3) := by decide +kernel
theorem dX1_chain_44 : decode cX1_chain 44 = .ok (.ifCond .eq 45, 3) := by decide +kernel
theorem dX1_chain_47 : decode cX1_chain 47 = .ok (.aload_n 0, 1) := by decide +kernel
theorem dX1_chain_48 : decode cX1_chain 48 = .ok (.getfield 15, 3) := by decide +kernel
theorem dX1_chain_51 : decode cX1_chain 51 = .ok (.iload 5, 2) := by decide +kernel
theorem dX1_chain_53 : decode cX1_chain 53 = .ok (.dup2, 1) := by decide +kernel
theorem dX1_chain_54 : decode cX1_chain 54 = .ok (.iaload, 1) := by decide +kernel
theorem dX1_chain_55 : decode cX1_chain 55 = .ok (.aload_n 0, 1) := by decide +kernel
theorem dX1_chain_56 : decode cX1_chain 56 = .ok (.getfield 15, 3) := by decide +kernel
theorem dX1_chain_59 : decode cX1_chain 59 = .ok (.iload 5, 2) := by decide +kernel
theorem dX1_chain_61 : decode cX1_chain 61 = .ok (.iaload, 1) := by decide +kernel
theorem dX1_chain_62 : decode cX1_chain 62 = .ok (.iload_n 1, 1) := by decide +kernel
theorem dX1_chain_63 : decode cX1_chain 63 = .ok (.invokestatic 26, 3) := by decide +kernel
theorem dX1_chain_66 : decode cX1_chain 66 = .ok (.ifCond .eq 8, 3) := by decide +kernel
theorem dX1_chain_69 : decode cX1_chain 69 = .ok (.iload 4, 2) := by decide +kernel
theorem dX1_chain_71 : decode cX1_chain 71 = .ok (.goto 4, 3) := by decide +kernel
theorem dX1_chain_74 : decode cX1_chain 74 = .ok (.iload_n 3, 1) := by decide +kernel
theorem dX1_chain_75 : decode cX1_chain 75 = .ok (.ior, 1) := by decide +kernel
theorem dX1_chain_76 : decode cX1_chain 76 = .ok (.iastore, 1) := by decide +kernel
theorem dX1_chain_77 : decode cX1_chain 77 = .ok (.aload_n 0, 1) := by decide +kernel
theorem dX1_chain_78 : decode cX1_chain 78 = .ok (.getfield 9, 3) := by decide +kernel
theorem dX1_chain_81 : decode cX1_chain 81 = .ok (.iload 5, 2) := by decide +kernel
theorem dX1_chain_83 : decode cX1_chain 83 = .ok (.dup2, 1) := by decide +kernel
theorem dX1_chain_84 : decode cX1_chain 84 = .ok (.iaload, 1) := by decide +kernel
theorem dX1_chain_85 : decode cX1_chain 85 = .ok (.iload 4, 2) := by decide +kernel
theorem dX1_chain_87 : decode cX1_chain 87 = .ok (.ior, 1) := by decide +kernel
theorem dX1_chain_88 : decode cX1_chain 88 = .ok (.iastore, 1) := by decide +kernel
theorem dX1_chain_89 : decode cX1_chain 89 = .ok (.iinc 5 1, 3) := by decide +kernel
theorem dX1_chain_92 : decode cX1_chain 92 = .ok (.goto (-66), 3) := by decide +kernel
theorem dX1_chain_95 : decode cX1_chain 95 = .ok (.return_, 1) := by decide +kernel
theorem dX1_isSound_0 : decode cX1_isSound 0 = .ok (.iconst 0, 1) := by decide +kernel
theorem dX1_isSound_1 : decode cX1_isSound 1 = .ok (.istore_n 1, 1) := by decide +kernel
theorem dX1_isSound_2 : decode cX1_isSound 2 = .ok (.iload_n 1, 1) := by decide +kernel
theorem dX1_isSound_3 : decode cX1_isSound 3 = .ok (.bipush 17, 2) := by decide +kernel
theorem dX1_isSound_5 : decode cX1_isSound 5 = .ok (.if_icmp .ge 24, 3) := by decide +kernel
theorem dX1_isSound_8 : decode cX1_isSound 8 = .ok (.aload_n 0, 1) := by decide +kernel
theorem dX1_isSound_9 : decode cX1_isSound 9 = .ok (.getfield 15, 3) := by decide +kernel
theorem dX1_isSound_12 : decode cX1_isSound 12 = .ok (.iload_n 1, 1) := by decide +kernel
theorem dX1_isSound_13 : decode cX1_isSound 13 = .ok (.iaload, 1) := by decide +kernel
theorem dX1_isSound_14 : decode cX1_isSound 14 = .ok (.iload_n 1, 1) := by decide +kernel
theorem dX1_isSound_15 : decode cX1_isSound 15 = .ok (.invokestatic 26, 3) := by decide +kernel
theorem dX1_isSound_18 : decode cX1_isSound 18 = .ok (.ifCond .eq 5, 3) := by decide +kernel
theorem dX1_isSound_21 : decode cX1_isSound 21 = .ok (.iconst 0, 1) := by decide +kernel
theorem dX1_isSound_22 : decode cX1_isSound 22 = .ok (.ireturn, 1) := by decide +kernel
theorem dX1_isSound_23 : decode cX1_isSound 23 = .ok (.iinc 1 1, 3) := by decide +kernel
theorem dX1_isSound_26 : decode cX1_isSound 26 = .ok (.goto (-24), 3) := by decide +kernel
theorem dX1_isSound_29 : decode cX1_isSound 29 = .ok (.iconst 1, 1) := by decide +kernel
theorem dX1_isSound_30 : decode cX1_isSound 30 = .ok (.ireturn, 1) := by decide +kernel
theorem dX1_tells_0 : decode cX1_tells 0 = .ok (.aload_n 0, 1) := by decide +kernel
theorem dX1_tells_1 : decode cX1_tells 1 = .ok (.invokevirtual 30, 3) := by decide +kernel
theorem dX1_tells_4 : decode cX1_tells 4 = .ok (.ifCond .ne 5, 3) := by decide +kernel
theorem dX1_tells_7 : decode cX1_tells 7 = .ok (.iconst 4, 1) := by decide +kernel
theorem dX1_tells_8 : decode cX1_tells 8 = .ok (.ireturn, 1) := by decide +kernel
theorem dX1_tells_9 : decode cX1_tells 9 = .ok (.aload_n 0, 1) := by decide +kernel
theorem dX1_tells_10 : decode cX1_tells 10 = .ok (.iload_n 1, 1) := by decide +kernel
theorem dX1_tells_11 : decode cX1_tells 11 = .ok (.iload_n 2, 1) := by decide +kernel
theorem dX1_tells_12 : decode cX1_tells 12 = .ok (.invokevirtual 34, 3) := by decide +kernel
theorem dX1_tells_15 : decode cX1_tells 15 = .ok (.ifCond .eq 5, 3) := by decide +kernel
theorem dX1_tells_18 : decode cX1_tells 18 = .ok (.iconst 1, 1) := by decide +kernel
theorem dX1_tells_19 : decode cX1_tells 19 = .ok (.ireturn, 1) := by decide +kernel
theorem dX1_tells_20 : decode cX1_tells 20 = .ok (.aload_n 0, 1) := by decide +kernel
theorem dX1_tells_21 : decode cX1_tells 21 = .ok (.iload_n 2, 1) := by decide +kernel
theorem dX1_tells_22 : decode cX1_tells 22 = .ok (.iload_n 1, 1) := by decide +kernel
theorem dX1_tells_23 : decode cX1_tells 23 = .ok (.invokevirtual 34, 3) := by decide +kernel
theorem dX1_tells_26 : decode cX1_tells 26 = .ok (.ifCond .eq 5, 3) := by decide +kernel
theorem dX1_tells_29 : decode cX1_tells 29 = .ok (.iconst 3, 1) := by decide +kernel
theorem dX1_tells_30 : decode cX1_tells 30 = .ok (.ireturn, 1) := by decide +kernel
theorem dX1_tells_31 : decode cX1_tells 31 = .ok (.iload_n 1, 1) := by decide +kernel
theorem dX1_tells_32 : decode cX1_tells 32 = .ok (.invokestatic 18, 3) := by decide +kernel
theorem dX1_tells_35 : decode cX1_tells 35 = .ok (.ifCond .eq 20, 3) := by decide +kernel
theorem dX1_tells_38 : decode cX1_tells 38 = .ok (.aload_n 0, 1) := by decide +kernel
theorem dX1_tells_39 : decode cX1_tells 39 = .ok (.getfield 9, 3) := by decide +kernel
theorem dX1_tells_42 : decode cX1_tells 42 = .ok (.iload_n 1, 1) := by decide +kernel
theorem dX1_tells_43 : decode cX1_tells 43 = .ok (.iaload, 1) := by decide +kernel
theorem dX1_tells_44 : decode cX1_tells 44 = .ok (.iload_n 2, 1) := by decide +kernel
theorem dX1_tells_45 : decode cX1_tells 45 = .ok (.invokestatic 26, 3) := by decide +kernel
theorem dX1_tells_48 : decode cX1_tells 48 = .ok (.ifCond .eq 7, 3) := by decide +kernel
theorem dX1_tells_51 : decode cX1_tells 51 = .ok (.iconst 2, 1) := by decide +kernel
theorem dX1_tells_52 : decode cX1_tells 52 = .ok (.goto 4, 3) := by decide +kernel
theorem dX1_tells_55 : decode cX1_tells 55 = .ok (.iconst 0, 1) := by decide +kernel
theorem dX1_tells_56 : decode cX1_tells 56 = .ok (.ireturn, 1) := by decide +kernel
theorem dX1_isAhead_0 : decode cX1_isAhead 0 = .ok (.iload_n 1, 1) := by decide +kernel
theorem dX1_isAhead_1 : decode cX1_isAhead 1 = .ok (.invokestatic 18, 3) := by decide +kernel
theorem dX1_isAhead_4 : decode cX1_isAhead 4 = .ok (.ifCond .eq 20, 3) := by decide +kernel
theorem dX1_isAhead_7 : decode cX1_isAhead 7 = .ok (.aload_n 0, 1) := by decide +kernel
theorem dX1_isAhead_8 : decode cX1_isAhead 8 = .ok (.getfield 15, 3) := by decide +kernel
theorem dX1_isAhead_11 : decode cX1_isAhead 11 = .ok (.iload_n 1, 1) := by decide +kernel
theorem dX1_isAhead_12 : decode cX1_isAhead 12 = .ok (.iaload, 1) := by decide +kernel
theorem dX1_isAhead_13 : decode cX1_isAhead 13 = .ok (.iload_n 2, 1) := by decide +kernel
theorem dX1_isAhead_14 : decode cX1_isAhead 14 = .ok (.invokestatic 26, 3) := by decide +kernel
theorem dX1_isAhead_17 : decode cX1_isAhead 17 = .ok (.ifCond .eq 7, 3) := by decide +kernel
theorem dX1_isAhead_20 : decode cX1_isAhead 20 = .ok (.iconst 1, 1) := by decide +kernel
theorem dX1_isAhead_21 : decode cX1_isAhead 21 = .ok (.goto 4, 3) := by decide +kernel
theorem dX1_isAhead_24 : decode cX1_isAhead 24 = .ok (.iconst 0, 1) := by decide +kernel
theorem dX1_isAhead_25 : decode cX1_isAhead 25 = .ok (.ireturn, 1) := by decide +kernel
theorem dX1_earliest_0 : decode cX1_earliest 0 = .ok (.ldc 37, 2) := by decide +kernel
theorem dX1_earliest_2 : decode cX1_earliest 2 = .ok (.istore_n 2, 1) := by decide +kernel
theorem dX1_earliest_3 : decode cX1_earliest 3 = .ok (.iconst 0, 1) := by decide +kernel
theorem dX1_earliest_4 : decode cX1_earliest 4 = .ok (.istore_n 3, 1) := by decide +kernel
theorem dX1_earliest_5 : decode cX1_earliest 5 = .ok (.iload_n 3, 1) := by decide +kernel
theorem dX1_earliest_6 : decode cX1_earliest 6 = .ok (.bipush 17, 2) := by decide +kernel
theorem dX1_earliest_8 : decode cX1_earliest 8 = .ok (.if_icmp .ge 27, 3) := by decide +kernel
theorem dX1_earliest_11 : decode cX1_earliest 11 = .ok (.iload_n 2, 1) := by decide +kernel
theorem dX1_earliest_12 : decode cX1_earliest 12 = .ok (.aload_n 0, 1) := by decide +kernel
theorem dX1_earliest_13 : decode cX1_earliest 13 = .ok (.iload_n 2, 1) := by decide +kernel
theorem dX1_earliest_14 : decode cX1_earliest 14 = .ok (.invokevirtual 38, 3) := by decide +kernel
theorem dX1_earliest_17 : decode cX1_earliest 17 = .ok (.iand, 1) := by decide +kernel
theorem dX1_earliest_18 : decode cX1_earliest 18 = .ok (.istore_n 2, 1) := by decide +kernel
theorem dX1_earliest_19 : decode cX1_earliest 19 = .ok (.iload_n 2, 1) := by decide +kernel
theorem dX1_earliest_20 : decode cX1_earliest 20 = .ok (.iload_n 1, 1) := by decide +kernel
theorem dX1_earliest_21 : decode cX1_earliest 21 = .ok (.invokestatic 26, 3) := by decide +kernel
theorem dX1_earliest_24 : decode cX1_earliest 24 = .ok (.ifCond .ne 5, 3) := by decide +kernel
theorem dX1_earliest_27 : decode cX1_earliest 27 = .ok (.iload_n 3, 1) := by decide +kernel
theorem dX1_earliest_28 : decode cX1_earliest 28 = .ok (.ireturn, 1) := by decide +kernel
theorem dX1_earliest_29 : decode cX1_earliest 29 = .ok (.iinc 3 1, 3) := by decide +kernel
theorem dX1_earliest_32 : decode cX1_earliest 32 = .ok (.goto (-27), 3) := by decide +kernel
theorem dX1_earliest_35 : decode cX1_earliest 35 = .ok (.bipush (-9), 2) := by decide +kernel
theorem dX1_earliest_37 : decode cX1_earliest 37 = .ok (.ireturn, 1) := by decide +kernel
theorem dX1_behindSome_0 : decode cX1_behindSome 0 = .ok (.iconst 0, 1) := by decide +kernel
theorem dX1_behindSome_1 : decode cX1_behindSome 1 = .ok (.istore_n 2, 1) := by decide +kernel
theorem dX1_behindSome_2 : decode cX1_behindSome 2 = .ok (.iconst 0, 1) := by decide +kernel
theorem dX1_behindSome_3 : decode cX1_behindSome 3 = .ok (.istore_n 3, 1) := by decide +kernel
theorem dX1_behindSome_4 : decode cX1_behindSome 4 = .ok (.iload_n 3, 1) := by decide +kernel
theorem dX1_behindSome_5 : decode cX1_behindSome 5 = .ok (.bipush 17, 2) := by decide +kernel
theorem dX1_behindSome_7 : decode cX1_behindSome 7 = .ok (.if_icmp .ge 26, 3) := by decide +kernel
theorem dX1_behindSome_10 : decode cX1_behindSome 10 = .ok (.iload_n 1, 1) := by decide +kernel
theorem dX1_behindSome_11 : decode cX1_behindSome 11 = .ok (.iload_n 3, 1) := by decide +kernel
theorem dX1_behindSome_12 : decode cX1_behindSome 12 = .ok (.invokestatic 26, 3) := by decide +kernel
theorem dX1_behindSome_15 : decode cX1_behindSome 15 = .ok (.ifCond .eq 12, 3) := by decide +kernel
theorem dX1_behindSome_18 : decode cX1_behindSome 18 = .ok (.iload_n 2, 1) := by decide +kernel
theorem dX1_behindSome_19 : decode cX1_behindSome 19 = .ok (.aload_n 0, 1) := by decide +kernel
theorem dX1_behindSome_20 : decode cX1_behindSome 20 = .ok (.getfield 15, 3) := by decide +kernel
theorem dX1_behindSome_23 : decode cX1_behindSome 23 = .ok (.iload_n 3, 1) := by decide +kernel
theorem dX1_behindSome_24 : decode cX1_behindSome 24 = .ok (.iaload, 1) := by decide +kernel
theorem dX1_behindSome_25 : decode cX1_behindSome 25 = .ok (.ior, 1) := by decide +kernel
theorem dX1_behindSome_26 : decode cX1_behindSome 26 = .ok (.istore_n 2, 1) := by decide +kernel
theorem dX1_behindSome_27 : decode cX1_behindSome 27 = .ok (.iinc 3 1, 3) := by decide +kernel
theorem dX1_behindSome_30 : decode cX1_behindSome 30 = .ok (.goto (-26), 3) := by decide +kernel
theorem dX1_behindSome_33 : decode cX1_behindSome 33 = .ok (.iload_n 2, 1) := by decide +kernel
theorem dX1_behindSome_34 : decode cX1_behindSome 34 = .ok (.ireturn, 1) := by decide +kernel
theorem dX1_aheadRow_0 : decode cX1_aheadRow 0 = .ok (.iload_n 1, 1) := by decide +kernel
theorem dX1_aheadRow_1 : decode cX1_aheadRow 1 = .ok (.invokestatic 18, 3) := by decide +kernel
theorem dX1_aheadRow_4 : decode cX1_aheadRow 4 = .ok (.ifCond .eq 12, 3) := by decide +kernel
theorem dX1_aheadRow_7 : decode cX1_aheadRow 7 = .ok (.aload_n 0, 1) := by decide +kernel
theorem dX1_aheadRow_8 : decode cX1_aheadRow 8 = .ok (.getfield 15, 3) := by decide +kernel
theorem dX1_aheadRow_11 : decode cX1_aheadRow 11 = .ok (.iload_n 1, 1) := by decide +kernel
theorem dX1_aheadRow_12 : decode cX1_aheadRow 12 = .ok (.iaload, 1) := by decide +kernel
theorem dX1_aheadRow_13 : decode cX1_aheadRow 13 = .ok (.goto 4, 3) := by decide +kernel
theorem dX1_aheadRow_16 : decode cX1_aheadRow 16 = .ok (.iconst 0, 1) := by decide +kernel
theorem dX1_aheadRow_17 : decode cX1_aheadRow 17 = .ok (.ireturn, 1) := by decide +kernel
theorem dX1_notBehindRow_0 : decode cX1_notBehindRow 0 = .ok (.iload_n 1, 1) := by decide +kernel
theorem dX1_notBehindRow_1 : decode cX1_notBehindRow 1 = .ok (.invokestatic 18, 3) := by decide +kernel
theorem dX1_notBehindRow_4 : decode cX1_notBehindRow 4 = .ok (.ifCond .eq 12, 3) := by decide +kernel
theorem dX1_notBehindRow_7 : decode cX1_notBehindRow 7 = .ok (.aload_n 0, 1) := by decide +kernel
theorem dX1_notBehindRow_8 : decode cX1_notBehindRow 8 = .ok (.getfield 9, 3) := by decide +kernel
theorem dX1_notBehindRow_11 : decode cX1_notBehindRow 11 = .ok (.iload_n 1, 1) := by decide +kernel
theorem dX1_notBehindRow_12 : decode cX1_notBehindRow 12 = .ok (.iaload, 1) := by decide +kernel
theorem dX1_notBehindRow_13 : decode cX1_notBehindRow 13 = .ok (.goto 4, 3) := by decide +kernel
theorem dX1_notBehindRow_16 : decode cX1_notBehindRow 16 = .ok (.iconst 0, 1) := by decide +kernel
theorem dX1_notBehindRow_17 : decode cX1_notBehindRow 17 = .ok (.ireturn, 1) := by decide +kernel
theorem dX1_isWithin_0 : decode cX1_isWithin 0 = .ok (.iload_n 0, 1) := by decide +kernel
theorem dX1_isWithin_1 : decode cX1_isWithin 1 = .ok (.ifCond .lt 13, 3) := by decide +kernel
theorem dX1_isWithin_4 : decode cX1_isWithin 4 = .ok (.iload_n 0, 1) := by decide +kernel
theorem dX1_isWithin_5 : decode cX1_isWithin 5 = .ok (.bipush 17, 2) := by decide +kernel
theorem dX1_isWithin_7 : decode cX1_isWithin 7 = .ok (.if_icmp .ge 7, 3) := by decide +kernel
theorem dX1_isWithin_10 : decode cX1_isWithin 10 = .ok (.iconst 1, 1) := by decide +kernel
theorem dX1_isWithin_11 : decode cX1_isWithin 11 = .ok (.goto 4, 3) := by decide +kernel
theorem dX1_isWithin_14 : decode cX1_isWithin 14 = .ok (.iconst 0, 1) := by decide +kernel
theorem dX1_isWithin_15 : decode cX1_isWithin 15 = .ok (.ireturn, 1) := by decide +kernel
theorem dX2_init_0 : decode cX2_init 0 = .ok (.aload_n 0, 1) := by decide +kernel
theorem dX2_init_1 : decode cX2_init 1 = .ok (.invokespecial 3, 3) := by decide +kernel
theorem dX2_init_4 : decode cX2_init 4 = .ok (.aload_n 0, 1) := by decide +kernel
theorem dX2_init_5 : decode cX2_init 5 = .ok (.bipush 10, 2) := by decide +kernel
theorem dX2_init_7 : decode cX2_init 7 = .ok (.bipush 74, 2) := by decide +kernel
theorem dX2_init_9 : decode cX2_init 9 = .ok (.multianewarray 11 2, 4) := by decide +kernel
theorem dX2_init_13 : decode cX2_init 13 = .ok (.putfield 13, 3) := by decide +kernel
theorem dX2_init_16 : decode cX2_init 16 = .ok (.return_, 1) := by decide +kernel
theorem dX2_size_0 : decode cX2_size 0 = .ok (.aload_n 0, 1) := by decide +kernel
theorem dX2_size_1 : decode cX2_size 1 = .ok (.getfield 18, 3) := by decide +kernel
theorem dX2_size_4 : decode cX2_size 4 = .ok (.ireturn, 1) := by decide +kernel
theorem dX2_lose_0 : decode cX2_lose 0 = .ok (.aload_n 0, 1) := by decide +kernel
theorem dX2_lose_1 : decode cX2_lose 1 = .ok (.iconst 0, 1) := by decide +kernel
theorem dX2_lose_2 : decode cX2_lose 2 = .ok (.putfield 18, 3) := by decide +kernel
theorem dX2_lose_5 : decode cX2_lose 5 = .ok (.return_, 1) := by decide +kernel
theorem dX2_note_0 : decode cX2_note 0 = .ok (.aload_n 0, 1) := by decide +kernel
theorem dX2_note_1 : decode cX2_note 1 = .ok (.getfield 22, 3) := by decide +kernel
theorem dX2_note_4 : decode cX2_note 4 = .ok (.ifCond .lt 15, 3) := by decide +kernel
theorem dX2_note_7 : decode cX2_note 7 = .ok (.aload_n 0, 1) := by decide +kernel
theorem dX2_note_8 : decode cX2_note 8 = .ok (.getfield 22, 3) := by decide +kernel
theorem dX2_note_11 : decode cX2_note 11 = .ok (.aload_n 0, 1) := by decide +kernel
theorem dX2_note_12 : decode cX2_note 12 = .ok (.getfield 13, 3) := by decide +kernel
theorem dX2_note_15 : decode cX2_note 15 = .ok (.arraylength, 1) := by decide +kernel
theorem dX2_note_16 : decode cX2_note 16 = .ok (.if_icmp .lt 4, 3) := by decide +kernel
theorem dX2_note_19 : decode cX2_note 19 = .ok (.return_, 1) := by decide +kernel
theorem dX2_note_20 : decode cX2_note 20 = .ok (.aload_n 1, 1) := by decide +kernel
theorem dX2_note_21 : decode cX2_note 21 = .ok (.aload_n 0, 1) := by decide +kernel
theorem dX2_note_22 : decode cX2_note 22 = .ok (.getfield 13, 3) := by decide +kernel
theorem dX2_note_25 : decode cX2_note 25 = .ok (.aload_n 0, 1) := by decide +kernel
theorem dX2_note_26 : decode cX2_note 26 = .ok (.getfield 22, 3) := by decide +kernel
theorem dX2_note_29 : decode cX2_note 29 = .ok (.aaload, 1) := by decide +kernel
theorem dX2_note_30 : decode cX2_note 30 = .ok (.invokevirtual 25, 3) := by decide +kernel
theorem dX2_note_33 : decode cX2_note 33 = .ok (.aload_n 0, 1) := by decide +kernel
theorem dX2_note_34 : decode cX2_note 34 = .ok (.aload_n 0, 1) := by decide +kernel
theorem dX2_note_35 : decode cX2_note 35 = .ok (.getfield 22, 3) := by decide +kernel
theorem dX2_note_38 : decode cX2_note 38 = .ok (.iconst 1, 1) := by decide +kernel
theorem dX2_note_39 : decode cX2_note 39 = .ok (.iadd, 1) := by decide +kernel
theorem dX2_note_40 : decode cX2_note 40 = .ok (.aload_n 0, 1) := by decide +kernel
theorem dX2_note_41 : decode cX2_note 41 = .ok (.getfield 13, 3) := by decide +kernel
theorem dX2_note_44 : decode cX2_note 44 = .ok (.arraylength, 1) := by decide +kernel
theorem dX2_note_45 : decode cX2_note 45 = .ok (.if_icmp .ge 12, 3) := by decide +kernel
theorem dX2_note_48 : decode cX2_note 48 = .ok (.aload_n 0, 1) := by decide +kernel
theorem dX2_note_49 : decode cX2_note 49 = .ok (.getfield 22, 3) := by decide +kernel
theorem dX2_note_52 : decode cX2_note 52 = .ok (.iconst 1, 1) := by decide +kernel
theorem dX2_note_53 : decode cX2_note 53 = .ok (.iadd, 1) := by decide +kernel
theorem dX2_note_54 : decode cX2_note 54 = .ok (.goto 4, 3) := by decide +kernel
theorem dX2_note_57 : decode cX2_note 57 = .ok (.iconst 0, 1) := by decide +kernel
theorem dX2_note_58 : decode cX2_note 58 = .ok (.putfield 22, 3) := by decide +kernel
theorem dX2_note_61 : decode cX2_note 61 = .ok (.aload_n 0, 1) := by decide +kernel
theorem dX2_note_62 : decode cX2_note 62 = .ok (.aload_n 0, 1) := by decide +kernel
theorem dX2_note_63 : decode cX2_note 63 = .ok (.getfield 18, 3) := by decide +kernel
theorem dX2_note_66 : decode cX2_note 66 = .ok (.iconst 1, 1) := by decide +kernel
theorem dX2_note_67 : decode cX2_note 67 = .ok (.iadd, 1) := by decide +kernel
theorem dX2_note_68 : decode cX2_note 68 = .ok (.aload_n 0, 1) := by decide +kernel
theorem dX2_note_69 : decode cX2_note 69 = .ok (.getfield 13, 3) := by decide +kernel
theorem dX2_note_72 : decode cX2_note 72 = .ok (.arraylength, 1) := by decide +kernel
theorem dX2_note_73 : decode cX2_note 73 = .ok (.invokestatic 29, 3) := by decide +kernel
theorem dX2_note_76 : decode cX2_note 76 = .ok (.putfield 18, 3) := by decide +kernel
theorem dX2_note_79 : decode cX2_note 79 = .ok (.return_, 1) := by decide +kernel
theorem dX2_restore_0 : decode cX2_restore 0 = .ok (.aload_n 0, 1) := by decide +kernel
theorem dX2_restore_1 : decode cX2_restore 1 = .ok (.getfield 22, 3) := by decide +kernel
theorem dX2_restore_4 : decode cX2_restore 4 = .ok (.ifCond .le 12, 3) := by decide +kernel
theorem dX2_restore_7 : decode cX2_restore 7 = .ok (.aload_n 0, 1) := by decide +kernel
theorem dX2_restore_8 : decode cX2_restore 8 = .ok (.getfield 22, 3) := by decide +kernel
theorem dX2_restore_11 : decode cX2_restore 11 = .ok (.iconst 1, 1) := by decide +kernel
theorem dX2_restore_12 : decode cX2_restore 12 = .ok (.isub, 1) := by decide +kernel
theorem dX2_restore_13 : decode cX2_restore 13 = .ok (.goto 10, 3) := by decide +kernel
theorem dX2_restore_16 : decode cX2_restore 16 = .ok (.aload_n 0, 1) := by decide +kernel
theorem dX2_restore_17 : decode cX2_restore 17 = .ok (.getfield 13, 3) := by decide +kernel
theorem dX2_restore_20 : decode cX2_restore 20 = .ok (.arraylength, 1) := by decide +kernel
theorem dX2_restore_21 : decode cX2_restore 21 = .ok (.iconst 1, 1) := by decide +kernel
theorem dX2_restore_22 : decode cX2_restore 22 = .ok (.isub, 1) := by decide +kernel
theorem dX2_restore_23 : decode cX2_restore 23 = .ok (.istore_n 2, 1) := by decide +kernel
theorem dX2_restore_24 : decode cX2_restore 24 = .ok (.aload_n 0, 1) := by decide +kernel
theorem dX2_restore_25 : decode cX2_restore 25 = .ok (.getfield 18, 3) := by decide +kernel
theorem dX2_restore_28 : decode cX2_restore 28 = .ok (.ifCond .le 12, 3) := by decide +kernel
theorem dX2_restore_31 : decode cX2_restore 31 = .ok (.iload_n 2, 1) := by decide +kernel
theorem dX2_restore_32 : decode cX2_restore 32 = .ok (.aload_n 0, 1) := by decide +kernel
theorem dX2_restore_33 : decode cX2_restore 33 = .ok (.getfield 13, 3) := by decide +kernel
theorem dX2_restore_36 : decode cX2_restore 36 = .ok (.arraylength, 1) := by decide +kernel
theorem dX2_restore_37 : decode cX2_restore 37 = .ok (.if_icmp .lt 4, 3) := by decide +kernel
theorem dX2_restore_40 : decode cX2_restore 40 = .ok (.return_, 1) := by decide +kernel
theorem dX2_restore_41 : decode cX2_restore 41 = .ok (.aload_n 1, 1) := by decide +kernel
theorem dX2_restore_42 : decode cX2_restore 42 = .ok (.aload_n 0, 1) := by decide +kernel
theorem dX2_restore_43 : decode cX2_restore 43 = .ok (.getfield 13, 3) := by decide +kernel
theorem dX2_restore_46 : decode cX2_restore 46 = .ok (.iload_n 2, 1) := by decide +kernel
theorem dX2_restore_47 : decode cX2_restore 47 = .ok (.aaload, 1) := by decide +kernel
theorem dX2_restore_48 : decode cX2_restore 48 = .ok (.invokevirtual 35, 3) := by decide +kernel
theorem dX2_restore_51 : decode cX2_restore 51 = .ok (.aload_n 0, 1) := by decide +kernel
theorem dX2_restore_52 : decode cX2_restore 52 = .ok (.iload_n 2, 1) := by decide +kernel
theorem dX2_restore_53 : decode cX2_restore 53 = .ok (.putfield 22, 3) := by decide +kernel
theorem dX2_restore_56 : decode cX2_restore 56 = .ok (.aload_n 0, 1) := by decide +kernel
theorem dX2_restore_57 : decode cX2_restore 57 = .ok (.dup, 1) := by decide +kernel
theorem dX2_restore_58 : decode cX2_restore 58 = .ok (.getfield 18, 3) := by decide +kernel
theorem dX2_restore_61 : decode cX2_restore 61 = .ok (.iconst 1, 1) := by decide +kernel
theorem dX2_restore_62 : decode cX2_restore 62 = .ok (.isub, 1) := by decide +kernel
theorem dX2_restore_63 : decode cX2_restore 63 = .ok (.putfield 18, 3) := by decide +kernel
theorem dX2_restore_66 : decode cX2_restore 66 = .ok (.return_, 1) := by decide +kernel
theorem dX3_init_0 : decode cX3_init 0 = .ok (.aload_n 0, 1) := by decide +kernel
theorem dX3_init_1 : decode cX3_init 1 = .ok (.invokespecial 3, 3) := by decide +kernel
theorem dX3_init_4 : decode cX3_init 4 = .ok (.aload_n 0, 1) := by decide +kernel
theorem dX3_init_5 : decode cX3_init 5 = .ok (.new 9, 3) := by decide +kernel
theorem dX3_init_8 : decode cX3_init 8 = .ok (.dup, 1) := by decide +kernel
theorem dX3_init_9 : decode cX3_init 9 = .ok (.invokespecial 11, 3) := by decide +kernel
theorem dX3_init_12 : decode cX3_init 12 = .ok (.putfield 12, 3) := by decide +kernel
theorem dX3_init_15 : decode cX3_init 15 = .ok (.aload_n 0, 1) := by decide +kernel
theorem dX3_init_16 : decode cX3_init 16 = .ok (.bipush 14, 2) := by decide +kernel
theorem dX3_init_18 : decode cX3_init 18 = .ok (.bipush 17, 2) := by decide +kernel
theorem dX3_init_20 : decode cX3_init 20 = .ok (.multianewarray 18 2, 4) := by decide +kernel
theorem dX3_init_24 : decode cX3_init 24 = .ok (.putfield 20, 3) := by decide +kernel
theorem dX3_init_27 : decode cX3_init 27 = .ok (.aload_n 0, 1) := by decide +kernel
theorem dX3_init_28 : decode cX3_init 28 = .ok (.bipush 14, 2) := by decide +kernel
theorem dX3_init_30 : decode cX3_init 30 = .ok (.bipush 17, 2) := by decide +kernel
theorem dX3_init_32 : decode cX3_init 32 = .ok (.multianewarray 18 2, 4) := by decide +kernel
theorem dX3_init_36 : decode cX3_init 36 = .ok (.putfield 23, 3) := by decide +kernel
theorem dX3_init_39 : decode cX3_init 39 = .ok (.aload_n 0, 1) := by decide +kernel
theorem dX3_init_40 : decode cX3_init 40 = .ok (.bipush 17, 2) := by decide +kernel
theorem dX3_init_42 : decode cX3_init 42 = .ok (.newarray .int, 2) := by decide +kernel
theorem dX3_init_44 : decode cX3_init 44 = .ok (.putfield 26, 3) := by decide +kernel
theorem dX3_init_47 : decode cX3_init 47 = .ok (.aload_n 0, 1) := by decide +kernel
theorem dX3_init_48 : decode cX3_init 48 = .ok (.bipush 17, 2) := by decide +kernel
theorem dX3_init_50 : decode cX3_init 50 = .ok (.newarray .int, 2) := by decide +kernel
theorem dX3_init_52 : decode cX3_init 52 = .ok (.putfield 30, 3) := by decide +kernel
theorem dX3_init_55 : decode cX3_init 55 = .ok (.return_, 1) := by decide +kernel
theorem dX3_fewest_0 : decode cX3_fewest 0 = .ok (.aload_n 1, 1) := by decide +kernel
theorem dX3_fewest_1 : decode cX3_fewest 1 = .ok (.invokevirtual 33, 3) := by decide +kernel
theorem dX3_fewest_4 : decode cX3_fewest 4 = .ok (.bipush 14, 2) := by decide +kernel
theorem dX3_fewest_6 : decode cX3_fewest 6 = .ok (.invokestatic 39, 3) := by decide +kernel
theorem dX3_fewest_9 : decode cX3_fewest 9 = .ok (.istore_n 2, 1) := by decide +kernel
theorem dX3_fewest_10 : decode cX3_fewest 10 = .ok (.aload_n 0, 1) := by decide +kernel
theorem dX3_fewest_11 : decode cX3_fewest 11 = .ok (.aload_n 1, 1) := by decide +kernel
theorem dX3_fewest_12 : decode cX3_fewest 12 = .ok (.iload_n 2, 1) := by decide +kernel
theorem dX3_fewest_13 : decode cX3_fewest 13 = .ok (.invokevirtual 45, 3) := by decide +kernel
theorem dX3_fewest_16 : decode cX3_fewest 16 = .ok (.aload_n 1, 1) := by decide +kernel
theorem dX3_fewest_17 : decode cX3_fewest 17 = .ok (.invokevirtual 49, 3) := by decide +kernel
theorem dX3_fewest_20 : decode cX3_fewest 20 = .ok (.istore_n 3, 1) := by decide +kernel
theorem dX3_fewest_21 : decode cX3_fewest 21 = .ok (.aload_n 0, 1) := by decide +kernel
theorem dX3_fewest_22 : decode cX3_fewest 22 = .ok (.iload_n 3, 1) := by decide +kernel
theorem dX3_fewest_23 : decode cX3_fewest 23 = .ok (.iload_n 2, 1) := by decide +kernel
theorem dX3_fewest_24 : decode cX3_fewest 24 = .ok (.invokevirtual 52, 3) := by decide +kernel
theorem dX3_fewest_27 : decode cX3_fewest 27 = .ok (.istore 4, 2) := by decide +kernel
theorem dX3_fewest_29 : decode cX3_fewest 29 = .ok (.iload 4, 2) := by decide +kernel
theorem dX3_fewest_31 : decode cX3_fewest 31 = .ok (.ifCond .ne 5, 3) := by decide +kernel
theorem dX3_fewest_34 : decode cX3_fewest 34 = .ok (.iconst 0, 1) := by decide +kernel
theorem dX3_fewest_35 : decode cX3_fewest 35 = .ok (.ireturn, 1) := by decide +kernel
theorem dX3_fewest_36 : decode cX3_fewest 36 = .ok (.iload_n 2, 1) := by decide +kernel
theorem dX3_fewest_37 : decode cX3_fewest 37 = .ok (.iconst 1, 1) := by decide +kernel
theorem dX3_fewest_38 : decode cX3_fewest 38 = .ok (.isub, 1) := by decide +kernel
theorem dX3_fewest_39 : decode cX3_fewest 39 = .ok (.istore 5, 2) := by decide +kernel
theorem dX3_fewest_41 : decode cX3_fewest 41 = .ok (.iload 5, 2) := by decide +kernel
theorem dX3_fewest_43 : decode cX3_fewest 43 = .ok (.ifCond .lt 33, 3) := by decide +kernel
theorem dX3_fewest_46 : decode cX3_fewest 46 = .ok (.iload_n 3, 1) := by decide +kernel
theorem dX3_fewest_47 : decode cX3_fewest 47 = .ok (.iconst 1, 1) := by decide +kernel
theorem dX3_fewest_48 : decode cX3_fewest 48 = .ok (.iload 5, 2) := by decide +kernel
theorem dX3_fewest_50 : decode cX3_fewest 50 = .ok (.ishl, 1) := by decide +kernel
theorem dX3_fewest_51 : decode cX3_fewest 51 = .ok (.iconst (-1), 1) := by decide +kernel
theorem dX3_fewest_52 : decode cX3_fewest 52 = .ok (.ixor, 1) := by decide +kernel
theorem dX3_fewest_53 : decode cX3_fewest 53 = .ok (.iand, 1) := by decide +kernel
theorem dX3_fewest_54 : decode cX3_fewest 54 = .ok (.istore 6, 2) := by decide +kernel
theorem dX3_fewest_56 : decode cX3_fewest 56 = .ok (.aload_n 0, 1) := by decide +kernel
theorem dX3_fewest_57 : decode cX3_fewest 57 = .ok (.iload 6, 2) := by decide +kernel
theorem dX3_fewest_59 : decode cX3_fewest 59 = .ok (.iload 4, 2) := by decide +kernel
theorem dX3_fewest_61 : decode cX3_fewest 61 = .ok (.invokevirtual 52, 3) := by decide +kernel
theorem dX3_fewest_64 : decode cX3_fewest 64 = .ok (.ifCond .eq 6, 3) := by decide +kernel
theorem dX3_fewest_67 : decode cX3_fewest 67 = .ok (.iload 6, 2) := by decide +kernel
theorem dX3_fewest_69 : decode cX3_fewest 69 = .ok (.istore_n 3, 1) := by decide +kernel
theorem dX3_fewest_70 : decode cX3_fewest 70 = .ok (.iinc 5 (-1), 3) := by decide +kernel
theorem dX3_fewest_73 : decode cX3_fewest 73 = .ok (.goto (-32), 3) := by decide +kernel
theorem dX3_fewest_76 : decode cX3_fewest 76 = .ok (.iload_n 3, 1) := by decide +kernel
theorem dX3_fewest_77 : decode cX3_fewest 77 = .ok (.ireturn, 1) := by decide +kernel
theorem dX3_noteSteps_0 : decode cX3_noteSteps 0 = .ok (.iconst 0, 1) := by decide +kernel
theorem dX3_noteSteps_1 : decode cX3_noteSteps 1 = .ok (.istore_n 3, 1) := by decide +kernel
theorem dX3_noteSteps_2 : decode cX3_noteSteps 2 = .ok (.iload_n 3, 1) := by decide +kernel
theorem dX3_noteSteps_3 : decode cX3_noteSteps 3 = .ok (.iload_n 2, 1) := by decide +kernel
theorem dX3_noteSteps_4 : decode cX3_noteSteps 4 = .ok (.if_icmp .ge 83, 3) := by decide +kernel
theorem dX3_noteSteps_7 : decode cX3_noteSteps 7 = .ok (.iload_n 3, 1) := by decide +kernel
theorem dX3_noteSteps_8 : decode cX3_noteSteps 8 = .ok (.bipush 14, 2) := by decide +kernel
theorem dX3_noteSteps_10 : decode cX3_noteSteps 10 = .ok (.if_icmp .ge 77, 3) := by decide +kernel
theorem dX3_noteSteps_13 : decode cX3_noteSteps 13 = .ok (.aload_n 0, 1) := by decide +kernel
theorem dX3_noteSteps_14 : decode cX3_noteSteps 14 = .ok (.getfield 12, 3) := by decide +kernel
theorem dX3_noteSteps_17 : decode cX3_noteSteps 17 = .ok (.invokevirtual 55, 3) := by decide +kernel
theorem dX3_noteSteps_20 : decode cX3_noteSteps 20 = .ok (.aload_n 1, 1) := by decide +kernel
theorem dX3_noteSteps_21 : decode cX3_noteSteps 21 = .ok (.iload_n 3, 1) := by decide +kernel
theorem dX3_noteSteps_22 : decode cX3_noteSteps 22 = .ok (.aload_n 0, 1) := by decide +kernel
theorem dX3_noteSteps_23 : decode cX3_noteSteps 23 = .ok (.getfield 12, 3) := by decide +kernel
theorem dX3_noteSteps_26 : decode cX3_noteSteps 26 = .ok (.invokevirtual 58, 3) := by decide +kernel
theorem dX3_noteSteps_29 : decode cX3_noteSteps 29 = .ok (.iconst 0, 1) := by decide +kernel
theorem dX3_noteSteps_30 : decode cX3_noteSteps 30 = .ok (.istore 4, 2) := by decide +kernel
theorem dX3_noteSteps_32 : decode cX3_noteSteps 32 = .ok (.iload 4, 2) := by decide +kernel
theorem dX3_noteSteps_34 : decode cX3_noteSteps 34 = .ok (.bipush 17, 2) := by decide +kernel
theorem dX3_noteSteps_36 : decode cX3_noteSteps 36 = .ok (.if_icmp .ge 45, 3) := by decide +kernel
theorem dX3_noteSteps_39 : decode cX3_noteSteps 39 = .ok (.aload_n 0, 1) := by decide +kernel
theorem dX3_noteSteps_40 : decode cX3_noteSteps 40 = .ok (.getfield 20, 3) := by decide +kernel
theorem dX3_noteSteps_43 : decode cX3_noteSteps 43 = .ok (.iload_n 3, 1) := by decide +kernel
theorem dX3_noteSteps_44 : decode cX3_noteSteps 44 = .ok (.aaload, 1) := by decide +kernel
theorem dX3_noteSteps_45 : decode cX3_noteSteps 45 = .ok (.iload 4, 2) := by decide +kernel
theorem dX3_noteSteps_47 : decode cX3_noteSteps 47 = .ok (.aload_n 0, 1) := by decide +kernel
theorem dX3_noteSteps_48 : decode cX3_noteSteps 48 = .ok (.getfield 12, 3) := by decide +kernel
theorem dX3_noteSteps_51 : decode cX3_noteSteps 51 = .ok (.iload 4, 2) := by decide +kernel
theorem dX3_noteSteps_53 : decode cX3_noteSteps 53 = .ok (.invokevirtual 62, 3) := by decide +kernel
theorem dX3_noteSteps_56 : decode cX3_noteSteps 56 = .ok (.iastore, 1) := by decide +kernel
theorem dX3_noteSteps_57 : decode cX3_noteSteps 57 = .ok (.aload_n 0, 1) := by decide +kernel
theorem dX3_noteSteps_58 : decode cX3_noteSteps 58 = .ok (.getfield 23, 3) := by decide +kernel
theorem dX3_noteSteps_61 : decode cX3_noteSteps 61 = .ok (.iload_n 3, 1) := by decide +kernel
theorem dX3_noteSteps_62 : decode cX3_noteSteps 62 = .ok (.aaload, 1) := by decide +kernel
theorem dX3_noteSteps_63 : decode cX3_noteSteps 63 = .ok (.iload 4, 2) := by decide +kernel
theorem dX3_noteSteps_65 : decode cX3_noteSteps 65 = .ok (.aload_n 0, 1) := by decide +kernel
theorem dX3_noteSteps_66 : decode cX3_noteSteps 66 = .ok (.getfield 12, 3) := by decide +kernel
theorem dX3_noteSteps_69 : decode cX3_noteSteps 69 = .ok (.iload 4, 2) := by decide +kernel
theorem dX3_noteSteps_71 : decode cX3_noteSteps 71 = .ok (.invokevirtual 66, 3) := by decide +kernel
theorem dX3_noteSteps_74 : decode cX3_noteSteps 74 = .ok (.iastore, 1) := by decide +kernel
theorem dX3_noteSteps_75 : decode cX3_noteSteps 75 = .ok (.iinc 4 1, 3) := by decide +kernel
theorem dX3_noteSteps_78 : decode cX3_noteSteps 78 = .ok (.goto (-46), 3) := by decide +kernel
theorem dX3_noteSteps_81 : decode cX3_noteSteps 81 = .ok (.iinc 3 1, 3) := by decide +kernel
theorem dX3_noteSteps_84 : decode cX3_noteSteps 84 = .ok (.goto (-82), 3) := by decide +kernel
theorem dX3_noteSteps_87 : decode cX3_noteSteps 87 = .ok (.return_, 1) := by decide +kernel
theorem dX3_shortestRing_0 : decode cX3_shortestRing 0 = .ok (.aload_n 0, 1) := by decide +kernel
theorem dX3_shortestRing_1 : decode cX3_shortestRing 1 = .ok (.iload_n 1, 1) := by decide +kernel
theorem dX3_shortestRing_2 : decode cX3_shortestRing 2 = .ok (.invokevirtual 69, 3) := by decide +kernel
theorem dX3_shortestRing_5 : decode cX3_shortestRing 5 = .ok (.iconst 0, 1) := by decide +kernel
theorem dX3_shortestRing_6 : decode cX3_shortestRing 6 = .ok (.istore_n 3, 1) := by decide +kernel
theorem dX3_shortestRing_7 : decode cX3_shortestRing 7 = .ok (.iload_n 2, 1) := by decide +kernel
theorem dX3_shortestRing_8 : decode cX3_shortestRing 8 = .ok (.istore 4, 2) := by decide +kernel
theorem dX3_shortestRing_10 : decode cX3_shortestRing 10 = .ok (.iconst 0, 1) := by decide +kernel
theorem dX3_shortestRing_11 : decode cX3_shortestRing 11 = .ok (.istore 5, 2) := by decide +kernel
theorem dX3_shortestRing_13 : decode cX3_shortestRing 13 = .ok (.iload 5, 2) := by decide +kernel
theorem dX3_shortestRing_15 : decode cX3_shortestRing 15 = .ok (.bipush 17, 2) := by decide +kernel
theorem dX3_shortestRing_17 : decode cX3_shortestRing 17 = .ok (.if_icmp .ge 33, 3) := by decide +kernel
theorem dX3_shortestRing_20 : decode cX3_shortestRing 20 = .ok (.aload_n 0, 1) := by decide +kernel
theorem dX3_shortestRing_21 : decode cX3_shortestRing 21 = .ok (.iload 5, 2) := by decide +kernel
theorem dX3_shortestRing_23 : decode cX3_shortestRing 23 = .ok (.iload 4, 2) := by decide +kernel
theorem dX3_shortestRing_25 : decode cX3_shortestRing 25 = .ok (.invokevirtual 73, 3) := by decide +kernel
theorem dX3_shortestRing_28 : decode cX3_shortestRing 28 = .ok (.istore 6, 2) := by decide +kernel
theorem dX3_shortestRing_30 : decode cX3_shortestRing 30 = .ok (.iload 6, 2) := by decide +kernel
theorem dX3_shortestRing_32 : decode cX3_shortestRing 32 = .ok (.ifCond .eq 12, 3) := by decide +kernel
theorem dX3_shortestRing_35 : decode cX3_shortestRing 35 = .ok (.iload 6, 2) := by decide +kernel
theorem dX3_shortestRing_37 : decode cX3_shortestRing 37 = .ok (.istore_n 3, 1) := by decide +kernel
theorem dX3_shortestRing_38 : decode cX3_shortestRing 38 = .ok (.iload 6, 2) := by decide +kernel
theorem dX3_shortestRing_40 : decode cX3_shortestRing 40 = .ok (.iconst 1, 1) := by decide +kernel
theorem dX3_shortestRing_41 : decode cX3_shortestRing 41 = .ok (.isub, 1) := by decide +kernel
theorem dX3_shortestRing_42 : decode cX3_shortestRing 42 = .ok (.istore 4, 2) := by decide +kernel
theorem dX3_shortestRing_44 : decode cX3_shortestRing 44 = .ok (.iinc 5 1, 3) := by decide +kernel
theorem dX3_shortestRing_47 : decode cX3_shortestRing 47 = .ok (.goto (-34), 3) := by decide +kernel
theorem dX3_shortestRing_50 : decode cX3_shortestRing 50 = .ok (.iload_n 3, 1) := by decide +kernel
theorem dX3_shortestRing_51 : decode cX3_shortestRing 51 = .ok (.ireturn, 1) := by decide +kernel
theorem dX3_joinSteps_0 : decode cX3_joinSteps 0 = .ok (.iconst 0, 1) := by decide +kernel
theorem dX3_joinSteps_1 : decode cX3_joinSteps 1 = .ok (.istore_n 2, 1) := by decide +kernel
theorem dX3_joinSteps_2 : decode cX3_joinSteps 2 = .ok (.iload_n 2, 1) := by decide +kernel
theorem dX3_joinSteps_3 : decode cX3_joinSteps 3 = .ok (.bipush 17, 2) := by decide +kernel
theorem dX3_joinSteps_5 : decode cX3_joinSteps 5 = .ok (.if_icmp .ge 81, 3) := by decide +kernel
theorem dX3_joinSteps_8 : decode cX3_joinSteps 8 = .ok (.aload_n 0, 1) := by decide +kernel
theorem dX3_joinSteps_9 : decode cX3_joinSteps 9 = .ok (.getfield 26, 3) := by decide +kernel
theorem dX3_joinSteps_12 : decode cX3_joinSteps 12 = .ok (.iload_n 2, 1) := by decide +kernel
theorem dX3_joinSteps_13 : decode cX3_joinSteps 13 = .ok (.iconst 1, 1) := by decide +kernel
theorem dX3_joinSteps_14 : decode cX3_joinSteps 14 = .ok (.iload_n 2, 1) := by decide +kernel
theorem dX3_joinSteps_15 : decode cX3_joinSteps 15 = .ok (.ishl, 1) := by decide +kernel
theorem dX3_joinSteps_16 : decode cX3_joinSteps 16 = .ok (.iastore, 1) := by decide +kernel
theorem dX3_joinSteps_17 : decode cX3_joinSteps 17 = .ok (.aload_n 0, 1) := by decide +kernel
theorem dX3_joinSteps_18 : decode cX3_joinSteps 18 = .ok (.getfield 30, 3) := by decide +kernel
theorem dX3_joinSteps_21 : decode cX3_joinSteps 21 = .ok (.iload_n 2, 1) := by decide +kernel
theorem dX3_joinSteps_22 : decode cX3_joinSteps 22 = .ok (.iconst 0, 1) := by decide +kernel
theorem dX3_joinSteps_23 : decode cX3_joinSteps 23 = .ok (.iastore, 1) := by decide +kernel
theorem dX3_joinSteps_24 : decode cX3_joinSteps 24 = .ok (.iconst 0, 1) := by decide +kernel
theorem dX3_joinSteps_25 : decode cX3_joinSteps 25 = .ok (.istore_n 3, 1) := by decide +kernel
theorem dX3_joinSteps_26 : decode cX3_joinSteps 26 = .ok (.iload_n 3, 1) := by decide +kernel
theorem dX3_joinSteps_27 : decode cX3_joinSteps 27 = .ok (.bipush 14, 2) := by decide +kernel
theorem dX3_joinSteps_29 : decode cX3_joinSteps 29 = .ok (.if_icmp .ge 51, 3) := by decide +kernel
theorem dX3_joinSteps_32 : decode cX3_joinSteps 32 = .ok (.iload_n 1, 1) := by decide +kernel
theorem dX3_joinSteps_33 : decode cX3_joinSteps 33 = .ok (.iload_n 3, 1) := by decide +kernel
theorem dX3_joinSteps_34 : decode cX3_joinSteps 34 = .ok (.invokestatic 76, 3) := by decide +kernel
theorem dX3_joinSteps_37 : decode cX3_joinSteps 37 = .ok (.ifCond .eq 37, 3) := by decide +kernel
theorem dX3_joinSteps_40 : decode cX3_joinSteps 40 = .ok (.aload_n 0, 1) := by decide +kernel
theorem dX3_joinSteps_41 : decode cX3_joinSteps 41 = .ok (.getfield 26, 3) := by decide +kernel
theorem dX3_joinSteps_44 : decode cX3_joinSteps 44 = .ok (.iload_n 2, 1) := by decide +kernel
theorem dX3_joinSteps_45 : decode cX3_joinSteps 45 = .ok (.dup2, 1) := by decide +kernel
theorem dX3_joinSteps_46 : decode cX3_joinSteps 46 = .ok (.iaload, 1) := by decide +kernel
theorem dX3_joinSteps_47 : decode cX3_joinSteps 47 = .ok (.aload_n 0, 1) := by decide +kernel
theorem dX3_joinSteps_48 : decode cX3_joinSteps 48 = .ok (.getfield 20, 3) := by decide +kernel
theorem dX3_joinSteps_51 : decode cX3_joinSteps 51 = .ok (.iload_n 3, 1) := by decide +kernel
theorem dX3_joinSteps_52 : decode cX3_joinSteps 52 = .ok (.aaload, 1) := by decide +kernel
theorem dX3_joinSteps_53 : decode cX3_joinSteps 53 = .ok (.iload_n 2, 1) := by decide +kernel
theorem dX3_joinSteps_54 : decode cX3_joinSteps 54 = .ok (.iaload, 1) := by decide +kernel
theorem dX3_joinSteps_55 : decode cX3_joinSteps 55 = .ok (.ior, 1) := by decide +kernel
theorem dX3_joinSteps_56 : decode cX3_joinSteps 56 = .ok (.iastore, 1) := by decide +kernel
theorem dX3_joinSteps_57 : decode cX3_joinSteps 57 = .ok (.aload_n 0, 1) := by decide +kernel
theorem dX3_joinSteps_58 : decode cX3_joinSteps 58 = .ok (.getfield 30, 3) := by decide +kernel
theorem dX3_joinSteps_61 : decode cX3_joinSteps 61 = .ok (.iload_n 2, 1) := by decide +kernel
theorem dX3_joinSteps_62 : decode cX3_joinSteps 62 = .ok (.dup2, 1) := by decide +kernel
theorem dX3_joinSteps_63 : decode cX3_joinSteps 63 = .ok (.iaload, 1) := by decide +kernel
theorem dX3_joinSteps_64 : decode cX3_joinSteps 64 = .ok (.aload_n 0, 1) := by decide +kernel
theorem dX3_joinSteps_65 : decode cX3_joinSteps 65 = .ok (.getfield 23, 3) := by decide +kernel
theorem dX3_joinSteps_68 : decode cX3_joinSteps 68 = .ok (.iload_n 3, 1) := by decide +kernel
theorem dX3_joinSteps_69 : decode cX3_joinSteps 69 = .ok (.aaload, 1) := by decide +kernel
theorem dX3_joinSteps_70 : decode cX3_joinSteps 70 = .ok (.iload_n 2, 1) := by decide +kernel
theorem dX3_joinSteps_71 : decode cX3_joinSteps 71 = .ok (.iaload, 1) := by decide +kernel
theorem dX3_joinSteps_72 : decode cX3_joinSteps 72 = .ok (.ior, 1) := by decide +kernel
theorem dX3_joinSteps_73 : decode cX3_joinSteps 73 = .ok (.iastore, 1) := by decide +kernel
theorem dX3_joinSteps_74 : decode cX3_joinSteps 74 = .ok (.iinc 3 1, 3) := by decide +kernel
theorem dX3_joinSteps_77 : decode cX3_joinSteps 77 = .ok (.goto (-51), 3) := by decide +kernel
theorem dX3_joinSteps_80 : decode cX3_joinSteps 80 = .ok (.iinc 2 1, 3) := by decide +kernel
theorem dX3_joinSteps_83 : decode cX3_joinSteps 83 = .ok (.goto (-81), 3) := by decide +kernel
theorem dX3_joinSteps_86 : decode cX3_joinSteps 86 = .ok (.return_, 1) := by decide +kernel
theorem dX3_stepsBackTo_0 : decode cX3_stepsBackTo 0 = .ok (.iconst 1, 1) := by decide +kernel
theorem dX3_stepsBackTo_1 : decode cX3_stepsBackTo 1 = .ok (.iload_n 1, 1) := by decide +kernel
theorem dX3_stepsBackTo_2 : decode cX3_stepsBackTo 2 = .ok (.ishl, 1) := by decide +kernel
theorem dX3_stepsBackTo_3 : decode cX3_stepsBackTo 3 = .ok (.istore_n 3, 1) := by decide +kernel
theorem dX3_stepsBackTo_4 : decode cX3_stepsBackTo 4 = .ok (.iconst 0, 1) := by decide +kernel
theorem dX3_stepsBackTo_5 : decode cX3_stepsBackTo 5 = .ok (.istore 4, 2) := by decide +kernel
theorem dX3_stepsBackTo_7 : decode cX3_stepsBackTo 7 = .ok (.iconst 1, 1) := by decide +kernel
theorem dX3_stepsBackTo_8 : decode cX3_stepsBackTo 8 = .ok (.istore 5, 2) := by decide +kernel
theorem dX3_stepsBackTo_10 : decode cX3_stepsBackTo 10 = .ok (.iload 5, 2) := by decide +kernel
theorem dX3_stepsBackTo_12 : decode cX3_stepsBackTo 12 = .ok (.iload_n 2, 1) := by decide +kernel
theorem dX3_stepsBackTo_13 : decode cX3_stepsBackTo 13 = .ok (.if_icmp .gt 103, 3) := by decide +kernel
theorem dX3_stepsBackTo_16 : decode cX3_stepsBackTo 16 = .ok (.iconst 0, 1) := by decide +kernel
theorem dX3_stepsBackTo_17 : decode cX3_stepsBackTo 17 = .ok (.istore 6, 2) := by decide +kernel
theorem dX3_stepsBackTo_19 : decode cX3_stepsBackTo 19 = .ok (.iconst 0, 1) := by decide +kernel
theorem dX3_stepsBackTo_20 : decode cX3_stepsBackTo 20 = .ok (.istore 7, 2) := by decide +kernel
theorem dX3_stepsBackTo_22 : decode cX3_stepsBackTo 22 = .ok (.iconst 0, 1) := by decide +kernel
theorem dX3_stepsBackTo_23 : decode cX3_stepsBackTo 23 = .ok (.istore 8, 2) := by decide +kernel
theorem dX3_stepsBackTo_25 : decode cX3_stepsBackTo 25 = .ok (.iload 8, 2) := by decide +kernel
theorem dX3_stepsBackTo_27 : decode cX3_stepsBackTo 27 = .ok (.bipush 17, 2) := by decide +kernel
theorem dX3_stepsBackTo_29 : decode cX3_stepsBackTo 29 = .ok (.if_icmp .ge 62, 3) := by decide +kernel
theorem dX3_stepsBackTo_32 : decode cX3_stepsBackTo 32 = .ok (.iload_n 3, 1) := by decide +kernel
theorem dX3_stepsBackTo_33 : decode cX3_stepsBackTo 33 = .ok (.iload 8, 2) := by decide +kernel
theorem dX3_stepsBackTo_35 : decode cX3_stepsBackTo 35 = .ok (.invokestatic 76, 3) := by decide +kernel
theorem dX3_stepsBackTo_38 : decode cX3_stepsBackTo 38 = .ok (.ifCond .eq 47, 3) := by decide +kernel
theorem dX3_stepsBackTo_41 : decode cX3_stepsBackTo 41 = .ok (.iload 6, 2) := by decide +kernel
theorem dX3_stepsBackTo_43 : decode cX3_stepsBackTo 43 = .ok (.aload_n 0, 1) := by decide +kernel
theorem dX3_stepsBackTo_44 : decode cX3_stepsBackTo 44 = .ok (.getfield 26, 3) := by decide +kernel
theorem dX3_stepsBackTo_47 : decode cX3_stepsBackTo 47 = .ok (.iload 8, 2) := by decide +kernel
theorem dX3_stepsBackTo_49 : decode cX3_stepsBackTo 49 = .ok (.iaload, 1) := by decide +kernel
theorem dX3_stepsBackTo_50 : decode cX3_stepsBackTo 50 = .ok (.ior, 1) := by decide +kernel
theorem dX3_stepsBackTo_51 : decode cX3_stepsBackTo 51 = .ok (.istore 6, 2) := by decide +kernel
theorem dX3_stepsBackTo_53 : decode cX3_stepsBackTo 53 = .ok (.iload 7, 2) := by decide +kernel
theorem dX3_stepsBackTo_55 : decode cX3_stepsBackTo 55 = .ok (.iload 4, 2) := by decide +kernel
theorem dX3_stepsBackTo_57 : decode cX3_stepsBackTo 57 = .ok (.iload 8, 2) := by decide +kernel
theorem dX3_stepsBackTo_59 : decode cX3_stepsBackTo 59 = .ok (.invokestatic 76, 3) := by decide +kernel
theorem dX3_stepsBackTo_62 : decode cX3_stepsBackTo 62 = .ok (.ifCond .eq 13, 3) := by decide +kernel
theorem dX3_stepsBackTo_65 : decode cX3_stepsBackTo 65 = .ok (.aload_n 0, 1) := by decide +kernel
theorem dX3_stepsBackTo_66 : decode cX3_stepsBackTo 66 = .ok (.getfield 26, 3) := by decide +kernel
theorem dX3_stepsBackTo_69 : decode cX3_stepsBackTo 69 = .ok (.iload 8, 2) := by decide +kernel
theorem dX3_stepsBackTo_71 : decode cX3_stepsBackTo 71 = .ok (.iaload, 1) := by decide +kernel
theorem dX3_stepsBackTo_72 : decode cX3_stepsBackTo 72 = .ok (.goto 10, 3) := by decide +kernel
theorem dX3_stepsBackTo_75 : decode cX3_stepsBackTo 75 = .ok (.aload_n 0, 1) := by decide +kernel
theorem dX3_stepsBackTo_76 : decode cX3_stepsBackTo 76 = .ok (.getfield 30, 3) := by decide +kernel
theorem dX3_stepsBackTo_79 : decode cX3_stepsBackTo 79 = .ok (.iload 8, 2) := by decide +kernel
theorem dX3_stepsBackTo_81 : decode cX3_stepsBackTo 81 = .ok (.iaload, 1) := by decide +kernel
theorem dX3_stepsBackTo_82 : decode cX3_stepsBackTo 82 = .ok (.ior, 1) := by decide +kernel
theorem dX3_stepsBackTo_83 : decode cX3_stepsBackTo 83 = .ok (.istore 7, 2) := by decide +kernel
theorem dX3_stepsBackTo_85 : decode cX3_stepsBackTo 85 = .ok (.iinc 8 1, 3) := by decide +kernel
theorem dX3_stepsBackTo_88 : decode cX3_stepsBackTo 88 = .ok (.goto (-63), 3) := by decide +kernel
theorem dX3_stepsBackTo_91 : decode cX3_stepsBackTo 91 = .ok (.iload 7, 2) := by decide +kernel
theorem dX3_stepsBackTo_93 : decode cX3_stepsBackTo 93 = .ok (.iload_n 1, 1) := by decide +kernel
theorem dX3_stepsBackTo_94 : decode cX3_stepsBackTo 94 = .ok (.invokestatic 76, 3) := by decide +kernel
theorem dX3_stepsBackTo_97 : decode cX3_stepsBackTo 97 = .ok (.ifCond .eq 6, 3) := by decide +kernel
theorem dX3_stepsBackTo_100 : decode cX3_stepsBackTo 100 = .ok (.iload 5, 2) := by decide +kernel
theorem dX3_stepsBackTo_102 : decode cX3_stepsBackTo 102 = .ok (.ireturn, 1) := by decide +kernel
theorem dX3_stepsBackTo_103 : decode cX3_stepsBackTo 103 = .ok (.iload 6, 2) := by decide +kernel
theorem dX3_stepsBackTo_105 : decode cX3_stepsBackTo 105 = .ok (.istore_n 3, 1) := by decide +kernel
theorem dX3_stepsBackTo_106 : decode cX3_stepsBackTo 106 = .ok (.iload 7, 2) := by decide +kernel
theorem dX3_stepsBackTo_108 : decode cX3_stepsBackTo 108 = .ok (.istore 4, 2) := by decide +kernel
theorem dX3_stepsBackTo_110 : decode cX3_stepsBackTo 110 = .ok (.iinc 5 1, 3) := by decide +kernel
theorem dX3_stepsBackTo_113 : decode cX3_stepsBackTo 113 = .ok (.goto (-103), 3) := by decide +kernel
theorem dX3_stepsBackTo_116 : decode cX3_stepsBackTo 116 = .ok (.iconst 0, 1) := by decide +kernel
theorem dX3_stepsBackTo_117 : decode cX3_stepsBackTo 117 = .ok (.ireturn, 1) := by decide +kernel
theorem dX4_init_0 : decode cX4_init 0 = .ok (.aload_n 0, 1) := by decide +kernel
theorem dX4_init_1 : decode cX4_init 1 = .ok (.invokespecial 3, 3) := by decide +kernel
theorem dX4_init_4 : decode cX4_init 4 = .ok (.aload_n 0, 1) := by decide +kernel
theorem dX4_init_5 : decode cX4_init 5 = .ok (.bipush 6, 2) := by decide +kernel
theorem dX4_init_7 : decode cX4_init 7 = .ok (.newarray .int, 2) := by decide +kernel
theorem dX4_init_9 : decode cX4_init 9 = .ok (.putfield 9, 3) := by decide +kernel
theorem dX4_init_12 : decode cX4_init 12 = .ok (.aload_n 0, 1) := by decide +kernel
theorem dX4_init_13 : decode cX4_init 13 = .ok (.bipush 6, 2) := by decide +kernel
theorem dX4_init_15 : decode cX4_init 15 = .ok (.newarray .int, 2) := by decide +kernel
theorem dX4_init_17 : decode cX4_init 17 = .ok (.putfield 15, 3) := by decide +kernel
theorem dX4_init_20 : decode cX4_init 20 = .ok (.aload_n 0, 1) := by decide +kernel
theorem dX4_init_21 : decode cX4_init 21 = .ok (.bipush 6, 2) := by decide +kernel
theorem dX4_init_23 : decode cX4_init 23 = .ok (.newarray .int, 2) := by decide +kernel
theorem dX4_init_25 : decode cX4_init 25 = .ok (.putfield 18, 3) := by decide +kernel
theorem dX4_init_28 : decode cX4_init 28 = .ok (.return_, 1) := by decide +kernel
theorem dX4_size_0 : decode cX4_size 0 = .ok (.aload_n 0, 1) := by decide +kernel
theorem dX4_size_1 : decode cX4_size 1 = .ok (.getfield 21, 3) := by decide +kernel
theorem dX4_size_4 : decode cX4_size 4 = .ok (.ireturn, 1) := by decide +kernel
theorem dX4_empty_0 : decode cX4_empty 0 = .ok (.aload_n 0, 1) := by decide +kernel
theorem dX4_empty_1 : decode cX4_empty 1 = .ok (.iconst 0, 1) := by decide +kernel
theorem dX4_empty_2 : decode cX4_empty 2 = .ok (.putfield 21, 3) := by decide +kernel
theorem dX4_empty_5 : decode cX4_empty 5 = .ok (.return_, 1) := by decide +kernel
theorem dX4_add_0 : decode cX4_add 0 = .ok (.aload_n 0, 1) := by decide +kernel
theorem dX4_add_1 : decode cX4_add 1 = .ok (.getfield 21, 3) := by decide +kernel
theorem dX4_add_4 : decode cX4_add 4 = .ok (.ifCond .lt 12, 3) := by decide +kernel
theorem dX4_add_7 : decode cX4_add 7 = .ok (.aload_n 0, 1) := by decide +kernel
theorem dX4_add_8 : decode cX4_add 8 = .ok (.getfield 21, 3) := by decide +kernel
theorem dX4_add_11 : decode cX4_add 11 = .ok (.bipush 6, 2) := by decide +kernel
theorem dX4_add_13 : decode cX4_add 13 = .ok (.if_icmp .lt 5, 3) := by decide +kernel
theorem dX4_add_16 : decode cX4_add 16 = .ok (.iconst 0, 1) := by decide +kernel
theorem dX4_add_17 : decode cX4_add 17 = .ok (.ireturn, 1) := by decide +kernel
theorem dX4_add_18 : decode cX4_add 18 = .ok (.aload_n 0, 1) := by decide +kernel
theorem dX4_add_19 : decode cX4_add 19 = .ok (.getfield 9, 3) := by decide +kernel
theorem dX4_add_22 : decode cX4_add 22 = .ok (.aload_n 0, 1) := by decide +kernel
theorem dX4_add_23 : decode cX4_add 23 = .ok (.getfield 21, 3) := by decide +kernel
theorem dX4_add_26 : decode cX4_add 26 = .ok (.iload_n 1, 1) := by decide +kernel
theorem dX4_add_27 : decode cX4_add 27 = .ok (.iastore, 1) := by decide +kernel
theorem dX4_add_28 : decode cX4_add 28 = .ok (.aload_n 0, 1) := by decide +kernel
theorem dX4_add_29 : decode cX4_add 29 = .ok (.getfield 15, 3) := by decide +kernel
theorem dX4_add_32 : decode cX4_add 32 = .ok (.aload_n 0, 1) := by decide +kernel
theorem dX4_add_33 : decode cX4_add 33 = .ok (.getfield 21, 3) := by decide +kernel
theorem dX4_add_36 : decode cX4_add 36 = .ok (.iload_n 2, 1) := by decide +kernel
theorem dX4_add_37 : decode cX4_add 37 = .ok (.iastore, 1) := by decide +kernel
theorem dX4_add_38 : decode cX4_add 38 = .ok (.aload_n 0, 1) := by decide +kernel
theorem dX4_add_39 : decode cX4_add 39 = .ok (.getfield 18, 3) := by decide +kernel
theorem dX4_add_42 : decode cX4_add 42 = .ok (.aload_n 0, 1) := by decide +kernel
theorem dX4_add_43 : decode cX4_add 43 = .ok (.getfield 21, 3) := by decide +kernel
theorem dX4_add_46 : decode cX4_add 46 = .ok (.iload_n 3, 1) := by decide +kernel
theorem dX4_add_47 : decode cX4_add 47 = .ok (.iastore, 1) := by decide +kernel
theorem dX4_add_48 : decode cX4_add 48 = .ok (.aload_n 0, 1) := by decide +kernel
theorem dX4_add_49 : decode cX4_add 49 = .ok (.dup, 1) := by decide +kernel
theorem dX4_add_50 : decode cX4_add 50 = .ok (.getfield 21, 3) := by decide +kernel
theorem dX4_add_53 : decode cX4_add 53 = .ok (.iconst 1, 1) := by decide +kernel
theorem dX4_add_54 : decode cX4_add 54 = .ok (.iadd, 1) := by decide +kernel
theorem dX4_add_55 : decode cX4_add 55 = .ok (.putfield 21, 3) := by decide +kernel
theorem dX4_add_58 : decode cX4_add 58 = .ok (.iconst 1, 1) := by decide +kernel
theorem dX4_add_59 : decode cX4_add 59 = .ok (.ireturn, 1) := by decide +kernel
theorem dX4_isSoBy_0 : decode cX4_isSoBy 0 = .ok (.iconst 0, 1) := by decide +kernel
theorem dX4_isSoBy_1 : decode cX4_isSoBy 1 = .ok (.istore_n 2, 1) := by decide +kernel
theorem dX4_isSoBy_2 : decode cX4_isSoBy 2 = .ok (.iload_n 2, 1) := by decide +kernel
theorem dX4_isSoBy_3 : decode cX4_isSoBy 3 = .ok (.aload_n 0, 1) := by decide +kernel
theorem dX4_isSoBy_4 : decode cX4_isSoBy 4 = .ok (.getfield 21, 3) := by decide +kernel
theorem dX4_isSoBy_7 : decode cX4_isSoBy 7 = .ok (.if_icmp .ge 42, 3) := by decide +kernel
theorem dX4_isSoBy_10 : decode cX4_isSoBy 10 = .ok (.iload_n 2, 1) := by decide +kernel
theorem dX4_isSoBy_11 : decode cX4_isSoBy 11 = .ok (.bipush 6, 2) := by decide +kernel
theorem dX4_isSoBy_13 : decode cX4_isSoBy 13 = .ok (.if_icmp .ge 36, 3) := by decide +kernel
theorem dX4_isSoBy_16 : decode cX4_isSoBy 16 = .ok (.aload_n 1, 1) := by decide +kernel
theorem dX4_isSoBy_17 : decode cX4_isSoBy 17 = .ok (.aload_n 0, 1) := by decide +kernel
theorem dX4_isSoBy_18 : decode cX4_isSoBy 18 = .ok (.getfield 9, 3) := by decide +kernel
theorem dX4_isSoBy_21 : decode cX4_isSoBy 21 = .ok (.iload_n 2, 1) := by decide +kernel
theorem dX4_isSoBy_22 : decode cX4_isSoBy 22 = .ok (.iaload, 1) := by decide +kernel
theorem dX4_isSoBy_23 : decode cX4_isSoBy 23 = .ok (.aload_n 0, 1) := by decide +kernel
theorem dX4_isSoBy_24 : decode cX4_isSoBy 24 = .ok (.getfield 15, 3) := by decide +kernel
theorem dX4_isSoBy_27 : decode cX4_isSoBy 27 = .ok (.iload_n 2, 1) := by decide +kernel
theorem dX4_isSoBy_28 : decode cX4_isSoBy 28 = .ok (.iaload, 1) := by decide +kernel
theorem dX4_isSoBy_29 : decode cX4_isSoBy 29 = .ok (.invokevirtual 25, 3) := by decide +kernel
theorem dX4_isSoBy_32 : decode cX4_isSoBy 32 = .ok (.aload_n 0, 1) := by decide +kernel
theorem dX4_isSoBy_33 : decode cX4_isSoBy 33 = .ok (.getfield 18, 3) := by decide +kernel
theorem dX4_isSoBy_36 : decode cX4_isSoBy 36 = .ok (.iload_n 2, 1) := by decide +kernel
theorem dX4_isSoBy_37 : decode cX4_isSoBy 37 = .ok (.iaload, 1) := by decide +kernel
theorem dX4_isSoBy_38 : decode cX4_isSoBy 38 = .ok (.if_icmp .eq 5, 3) := by decide +kernel
theorem dX4_isSoBy_41 : decode cX4_isSoBy 41 = .ok (.iconst 0, 1) := by decide +kernel
theorem dX4_isSoBy_42 : decode cX4_isSoBy 42 = .ok (.ireturn, 1) := by decide +kernel
theorem dX4_isSoBy_43 : decode cX4_isSoBy 43 = .ok (.iinc 2 1, 3) := by decide +kernel
theorem dX4_isSoBy_46 : decode cX4_isSoBy 46 = .ok (.goto (-44), 3) := by decide +kernel
theorem dX4_isSoBy_49 : decode cX4_isSoBy 49 = .ok (.iconst 1, 1) := by decide +kernel
theorem dX4_isSoBy_50 : decode cX4_isSoBy 50 = .ok (.ireturn, 1) := by decide +kernel
