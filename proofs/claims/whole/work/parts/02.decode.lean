theorem dX0_init_0 : decode cX0_init 0 = .ok (.aload_n 0, 1) := by decide +kernel
theorem dX0_init_1 : decode cX0_init 1 = .ok (.invokespecial 3, 3) := by decide +kernel
theorem dX0_init_4 : decode cX0_init 4 = .ok (.aload_n 0, 1) := by decide +kernel
theorem dX0_init_5 : decode cX0_init 5 = .ok (.bipush 119, 2) := by decide +kernel
theorem dX0_init_7 : decode cX0_init 7 = .ok (.putfield 9, 3) := by decide +kernel
theorem dX0_init_10 : decode cX0_init 10 = .ok (.aload_n 0, 1) := by decide +kernel
theorem dX0_init_11 : decode cX0_init 11 = .ok (.iconst 0, 1) := by decide +kernel
theorem dX0_init_12 : decode cX0_init 12 = .ok (.putfield 15, 3) := by decide +kernel
theorem dX0_init_15 : decode cX0_init 15 = .ok (.aload_n 0, 1) := by decide +kernel
theorem dX0_init_16 : decode cX0_init 16 = .ok (.iconst 0, 1) := by decide +kernel
theorem dX0_init_17 : decode cX0_init 17 = .ok (.putfield 19, 3) := by decide +kernel
theorem dX0_init_20 : decode cX0_init 20 = .ok (.aload_n 0, 1) := by decide +kernel
theorem dX0_init_21 : decode cX0_init 21 = .ok (.iconst 0, 1) := by decide +kernel
theorem dX0_init_22 : decode cX0_init 22 = .ok (.putfield 22, 3) := by decide +kernel
theorem dX0_init_25 : decode cX0_init 25 = .ok (.aload_n 0, 1) := by decide +kernel
theorem dX0_init_26 : decode cX0_init 26 = .ok (.iload_n 1, 1) := by decide +kernel
theorem dX0_init_27 : decode cX0_init 27 = .ok (.putfield 25, 3) := by decide +kernel
theorem dX0_init_30 : decode cX0_init 30 = .ok (.aload_n 0, 1) := by decide +kernel
theorem dX0_init_31 : decode cX0_init 31 = .ok (.aload_n 2, 1) := by decide +kernel
theorem dX0_init_32 : decode cX0_init 32 = .ok (.putfield 28, 3) := by decide +kernel
theorem dX0_init_35 : decode cX0_init 35 = .ok (.aload_n 0, 1) := by decide +kernel
theorem dX0_init_36 : decode cX0_init 36 = .ok (.iload_n 3, 1) := by decide +kernel
theorem dX0_init_37 : decode cX0_init 37 = .ok (.putfield 32, 3) := by decide +kernel
theorem dX0_init_40 : decode cX0_init 40 = .ok (.aload_n 0, 1) := by decide +kernel
theorem dX0_init_41 : decode cX0_init 41 = .ok (.iload 4, 2) := by decide +kernel
theorem dX0_init_43 : decode cX0_init 43 = .ok (.putfield 35, 3) := by decide +kernel
theorem dX0_init_46 : decode cX0_init 46 = .ok (.return_, 1) := by decide +kernel
theorem dX0_isAlive_0 : decode cX0_isAlive 0 = .ok (.aload_n 0, 1) := by decide +kernel
theorem dX0_isAlive_1 : decode cX0_isAlive 1 = .ok (.getfield 9, 3) := by decide +kernel
theorem dX0_isAlive_4 : decode cX0_isAlive 4 = .ok (.bipush 119, 2) := by decide +kernel
theorem dX0_isAlive_6 : decode cX0_isAlive 6 = .ok (.if_icmp .eq 12, 3) := by decide +kernel
theorem dX0_isAlive_9 : decode cX0_isAlive 9 = .ok (.aload_n 0, 1) := by decide +kernel
theorem dX0_isAlive_10 : decode cX0_isAlive 10 = .ok (.getfield 9, 3) := by decide +kernel
theorem dX0_isAlive_13 : decode cX0_isAlive 13 = .ok (.bipush 114, 2) := by decide +kernel
theorem dX0_isAlive_15 : decode cX0_isAlive 15 = .ok (.if_icmp .ne 7, 3) := by decide +kernel
theorem dX0_isAlive_18 : decode cX0_isAlive 18 = .ok (.iconst 1, 1) := by decide +kernel
theorem dX0_isAlive_19 : decode cX0_isAlive 19 = .ok (.goto 4, 3) := by decide +kernel
theorem dX0_isAlive_22 : decode cX0_isAlive 22 = .ok (.iconst 0, 1) := by decide +kernel
theorem dX0_isAlive_23 : decode cX0_isAlive 23 = .ok (.ireturn, 1) := by decide +kernel
theorem dX0_takeUnits_0 : decode cX0_takeUnits 0 = .ok (.aload_n 0, 1) := by decide +kernel
theorem dX0_takeUnits_1 : decode cX0_takeUnits 1 = .ok (.bipush 114, 2) := by decide +kernel
theorem dX0_takeUnits_3 : decode cX0_takeUnits 3 = .ok (.putfield 9, 3) := by decide +kernel
theorem dX0_takeUnits_6 : decode cX0_takeUnits 6 = .ok (.aload_n 0, 1) := by decide +kernel
theorem dX0_takeUnits_7 : decode cX0_takeUnits 7 = .ok (.getfield 28, 3) := by decide +kernel
theorem dX0_takeUnits_10 : decode cX0_takeUnits 10 = .ok (.aload_n 0, 1) := by decide +kernel
theorem dX0_takeUnits_11 : decode cX0_takeUnits 11 = .ok (.getfield 32, 3) := by decide +kernel
theorem dX0_takeUnits_14 : decode cX0_takeUnits 14 = .ok (.invokevirtual 38, 3) := by decide +kernel
theorem dX0_takeUnits_17 : decode cX0_takeUnits 17 = .ok (.return_, 1) := by decide +kernel
theorem dX0_giveUnitsBack_0 : decode cX0_giveUnitsBack 0 = .ok (.aload_n 0, 1) := by decide +kernel
theorem dX0_giveUnitsBack_1 : decode cX0_giveUnitsBack 1 = .ok (.bipush 119, 2) := by decide +kernel
theorem dX0_giveUnitsBack_3 : decode cX0_giveUnitsBack 3 = .ok (.putfield 9, 3) := by decide +kernel
theorem dX0_giveUnitsBack_6 : decode cX0_giveUnitsBack 6 = .ok (.aload_n 0, 1) := by decide +kernel
theorem dX0_giveUnitsBack_7 : decode cX0_giveUnitsBack 7 = .ok (.getfield 28, 3) := by decide +kernel
theorem dX0_giveUnitsBack_10 : decode cX0_giveUnitsBack 10 = .ok (.aload_n 0, 1) := by decide +kernel
theorem dX0_giveUnitsBack_11 : decode cX0_giveUnitsBack 11 = .ok (.getfield 32, 3) := by decide +kernel
theorem dX0_giveUnitsBack_14 : decode cX0_giveUnitsBack 14 = .ok (.ineg, 1) := by decide +kernel
theorem dX0_giveUnitsBack_15 : decode cX0_giveUnitsBack 15 = .ok (.invokevirtual 38, 3) := by decide +kernel
theorem dX0_giveUnitsBack_18 : decode cX0_giveUnitsBack 18 = .ok (.return_, 1) := by decide +kernel
theorem dX1_init_0 : decode cX1_init 0 = .ok (.aload_n 0, 1) := by decide +kernel
theorem dX1_init_1 : decode cX1_init 1 = .ok (.invokespecial 1, 3) := by decide +kernel
theorem dX1_init_4 : decode cX1_init 4 = .ok (.aload_n 0, 1) := by decide +kernel
theorem dX1_init_5 : decode cX1_init 5 = .ok (.iconst 0, 1) := by decide +kernel
theorem dX1_init_6 : decode cX1_init 6 = .ok (.putfield 7, 3) := by decide +kernel
theorem dX1_init_9 : decode cX1_init 9 = .ok (.aload_n 0, 1) := by decide +kernel
theorem dX1_init_10 : decode cX1_init 10 = .ok (.aload_n 1, 1) := by decide +kernel
theorem dX1_init_11 : decode cX1_init 11 = .ok (.putfield 13, 3) := by decide +kernel
theorem dX1_init_14 : decode cX1_init 14 = .ok (.aload_n 0, 1) := by decide +kernel
theorem dX1_init_15 : decode cX1_init 15 = .ok (.iload_n 2, 1) := by decide +kernel
theorem dX1_init_16 : decode cX1_init 16 = .ok (.putfield 17, 3) := by decide +kernel
theorem dX1_init_19 : decode cX1_init 19 = .ok (.aload_n 0, 1) := by decide +kernel
theorem dX1_init_20 : decode cX1_init 20 = .ok (.iload_n 3, 1) := by decide +kernel
theorem dX1_init_21 : decode cX1_init 21 = .ok (.putfield 20, 3) := by decide +kernel
theorem dX1_init_24 : decode cX1_init 24 = .ok (.return_, 1) := by decide +kernel
theorem dX2_init_0 : decode cX2_init 0 = .ok (.aload_n 0, 1) := by decide +kernel
theorem dX2_init_1 : decode cX2_init 1 = .ok (.invokespecial 3, 3) := by decide +kernel
theorem dX2_init_4 : decode cX2_init 4 = .ok (.aload_n 0, 1) := by decide +kernel
theorem dX2_init_5 : decode cX2_init 5 = .ok (.new 9, 3) := by decide +kernel
theorem dX2_init_8 : decode cX2_init 8 = .ok (.dup, 1) := by decide +kernel
theorem dX2_init_9 : decode cX2_init 9 = .ok (.invokespecial 11, 3) := by decide +kernel
theorem dX2_init_12 : decode cX2_init 12 = .ok (.putfield 12, 3) := by decide +kernel
theorem dX2_init_15 : decode cX2_init 15 = .ok (.aload_n 0, 1) := by decide +kernel
theorem dX2_init_16 : decode cX2_init 16 = .ok (.sipush 500, 3) := by decide +kernel
theorem dX2_init_19 : decode cX2_init 19 = .ok (.putfield 18, 3) := by decide +kernel
theorem dX2_init_22 : decode cX2_init 22 = .ok (.aload_n 0, 1) := by decide +kernel
theorem dX2_init_23 : decode cX2_init 23 = .ok (.iconst 0, 1) := by decide +kernel
theorem dX2_init_24 : decode cX2_init 24 = .ok (.putfield 22, 3) := by decide +kernel
theorem dX2_init_27 : decode cX2_init 27 = .ok (.aload_n 0, 1) := by decide +kernel
theorem dX2_init_28 : decode cX2_init 28 = .ok (.iconst 0, 1) := by decide +kernel
theorem dX2_init_29 : decode cX2_init 29 = .ok (.putfield 26, 3) := by decide +kernel
theorem dX2_init_32 : decode cX2_init 32 = .ok (.aload_n 0, 1) := by decide +kernel
theorem dX2_init_33 : decode cX2_init 33 = .ok (.lconst 0, 1) := by decide +kernel
theorem dX2_init_34 : decode cX2_init 34 = .ok (.putfield 29, 3) := by decide +kernel
theorem dX2_init_37 : decode cX2_init 37 = .ok (.aload_n 0, 1) := by decide +kernel
theorem dX2_init_38 : decode cX2_init 38 = .ok (.iconst 0, 1) := by decide +kernel
theorem dX2_init_39 : decode cX2_init 39 = .ok (.putfield 33, 3) := by decide +kernel
theorem dX2_init_42 : decode cX2_init 42 = .ok (.aload_n 0, 1) := by decide +kernel
theorem dX2_init_43 : decode cX2_init 43 = .ok (.iconst 0, 1) := by decide +kernel
theorem dX2_init_44 : decode cX2_init 44 = .ok (.putfield 36, 3) := by decide +kernel
theorem dX2_init_47 : decode cX2_init 47 = .ok (.aload_n 0, 1) := by decide +kernel
theorem dX2_init_48 : decode cX2_init 48 = .ok (.iconst 0, 1) := by decide +kernel
theorem dX2_init_49 : decode cX2_init 49 = .ok (.putfield 39, 3) := by decide +kernel
theorem dX2_init_52 : decode cX2_init 52 = .ok (.aload_n 0, 1) := by decide +kernel
theorem dX2_init_53 : decode cX2_init 53 = .ok (.iconst 0, 1) := by decide +kernel
theorem dX2_init_54 : decode cX2_init 54 = .ok (.putfield 42, 3) := by decide +kernel
theorem dX2_init_57 : decode cX2_init 57 = .ok (.aload_n 0, 1) := by decide +kernel
theorem dX2_init_58 : decode cX2_init 58 = .ok (.iconst 0, 1) := by decide +kernel
theorem dX2_init_59 : decode cX2_init 59 = .ok (.putfield 45, 3) := by decide +kernel
theorem dX2_init_62 : decode cX2_init 62 = .ok (.aload_n 0, 1) := by decide +kernel
theorem dX2_init_63 : decode cX2_init 63 = .ok (.iconst 0, 1) := by decide +kernel
theorem dX2_init_64 : decode cX2_init 64 = .ok (.putfield 48, 3) := by decide +kernel
theorem dX2_init_67 : decode cX2_init 67 = .ok (.aload_n 0, 1) := by decide +kernel
theorem dX2_init_68 : decode cX2_init 68 = .ok (.iload_n 1, 1) := by decide +kernel
theorem dX2_init_69 : decode cX2_init 69 = .ok (.putfield 51, 3) := by decide +kernel
theorem dX2_init_72 : decode cX2_init 72 = .ok (.aload_n 0, 1) := by decide +kernel
theorem dX2_init_73 : decode cX2_init 73 = .ok (.aload_n 2, 1) := by decide +kernel
theorem dX2_init_74 : decode cX2_init 74 = .ok (.putfield 54, 3) := by decide +kernel
theorem dX2_init_77 : decode cX2_init 77 = .ok (.aload_n 0, 1) := by decide +kernel
theorem dX2_init_78 : decode cX2_init 78 = .ok (.iload_n 3, 1) := by decide +kernel
theorem dX2_init_79 : decode cX2_init 79 = .ok (.putfield 58, 3) := by decide +kernel
theorem dX2_init_82 : decode cX2_init 82 = .ok (.return_, 1) := by decide +kernel
theorem dX2_isLeaf_0 : decode cX2_isLeaf 0 = .ok (.aload_n 0, 1) := by decide +kernel
theorem dX2_isLeaf_1 : decode cX2_isLeaf 1 = .ok (.getfield 12, 3) := by decide +kernel
theorem dX2_isLeaf_4 : decode cX2_isLeaf 4 = .ok (.invokevirtual 61, 3) := by decide +kernel
theorem dX2_isLeaf_7 : decode cX2_isLeaf 7 = .ok (.ireturn, 1) := by decide +kernel
theorem dX2_limitsAllow_0 : decode cX2_limitsAllow 0 = .ok (.aload_n 0, 1) := by decide +kernel
theorem dX2_limitsAllow_1 : decode cX2_limitsAllow 1 = .ok (.astore_n 2, 1) := by decide +kernel
theorem dX2_limitsAllow_2 : decode cX2_limitsAllow 2 = .ok (.aload_n 2, 1) := by decide +kernel
theorem dX2_limitsAllow_3 : decode cX2_limitsAllow 3 = .ok (.getfield 54, 3) := by decide +kernel
theorem dX2_limitsAllow_6 : decode cX2_limitsAllow 6 = .ok (.ifnull 26, 3) := by decide +kernel
theorem dX2_limitsAllow_9 : decode cX2_limitsAllow 9 = .ok (.aload_n 2, 1) := by decide +kernel
theorem dX2_limitsAllow_10 : decode cX2_limitsAllow 10 = .ok (.getfield 26, 3) := by decide +kernel
theorem dX2_limitsAllow_13 : decode cX2_limitsAllow 13 = .ok (.iload_n 1, 1) := by decide +kernel
theorem dX2_limitsAllow_14 : decode cX2_limitsAllow 14 = .ok (.iadd, 1) := by decide +kernel
theorem dX2_limitsAllow_15 : decode cX2_limitsAllow 15 = .ok (.aload_n 2, 1) := by decide +kernel
theorem dX2_limitsAllow_16 : decode cX2_limitsAllow 16 = .ok (.getfield 18, 3) := by decide +kernel
theorem dX2_limitsAllow_19 : decode cX2_limitsAllow 19 = .ok (.if_icmp .le 5, 3) := by decide +kernel
theorem dX2_limitsAllow_22 : decode cX2_limitsAllow 22 = .ok (.iconst 0, 1) := by decide +kernel
theorem dX2_limitsAllow_23 : decode cX2_limitsAllow 23 = .ok (.ireturn, 1) := by decide +kernel
theorem dX2_limitsAllow_24 : decode cX2_limitsAllow 24 = .ok (.aload_n 2, 1) := by decide +kernel
theorem dX2_limitsAllow_25 : decode cX2_limitsAllow 25 = .ok (.getfield 54, 3) := by decide +kernel
theorem dX2_limitsAllow_28 : decode cX2_limitsAllow 28 = .ok (.astore_n 2, 1) := by decide +kernel
theorem dX2_limitsAllow_29 : decode cX2_limitsAllow 29 = .ok (.goto (-27), 3) := by decide +kernel
theorem dX2_limitsAllow_32 : decode cX2_limitsAllow 32 = .ok (.iconst 1, 1) := by decide +kernel
theorem dX2_limitsAllow_33 : decode cX2_limitsAllow 33 = .ok (.ireturn, 1) := by decide +kernel
theorem dX2_changeRuns_0 : decode cX2_changeRuns 0 = .ok (.aload_n 0, 1) := by decide +kernel
theorem dX2_changeRuns_1 : decode cX2_changeRuns 1 = .ok (.astore_n 2, 1) := by decide +kernel
theorem dX2_changeRuns_2 : decode cX2_changeRuns 2 = .ok (.aload_n 2, 1) := by decide +kernel
theorem dX2_changeRuns_3 : decode cX2_changeRuns 3 = .ok (.ifnull 21, 3) := by decide +kernel
theorem dX2_changeRuns_6 : decode cX2_changeRuns 6 = .ok (.aload_n 2, 1) := by decide +kernel
theorem dX2_changeRuns_7 : decode cX2_changeRuns 7 = .ok (.dup, 1) := by decide +kernel
theorem dX2_changeRuns_8 : decode cX2_changeRuns 8 = .ok (.getfield 26, 3) := by decide +kernel
theorem dX2_changeRuns_11 : decode cX2_changeRuns 11 = .ok (.iload_n 1, 1) := by decide +kernel
theorem dX2_changeRuns_12 : decode cX2_changeRuns 12 = .ok (.iadd, 1) := by decide +kernel
theorem dX2_changeRuns_13 : decode cX2_changeRuns 13 = .ok (.putfield 26, 3) := by decide +kernel
theorem dX2_changeRuns_16 : decode cX2_changeRuns 16 = .ok (.aload_n 2, 1) := by decide +kernel
theorem dX2_changeRuns_17 : decode cX2_changeRuns 17 = .ok (.getfield 54, 3) := by decide +kernel
theorem dX2_changeRuns_20 : decode cX2_changeRuns 20 = .ok (.astore_n 2, 1) := by decide +kernel
theorem dX2_changeRuns_21 : decode cX2_changeRuns 21 = .ok (.goto (-19), 3) := by decide +kernel
theorem dX2_changeRuns_24 : decode cX2_changeRuns 24 = .ok (.return_, 1) := by decide +kernel
theorem dX2_usedLessThan_0 : decode cX2_usedLessThan 0 = .ok (.aload_n 0, 1) := by decide +kernel
theorem dX2_usedLessThan_1 : decode cX2_usedLessThan 1 = .ok (.getfield 29, 3) := by decide +kernel
theorem dX2_usedLessThan_4 : decode cX2_usedLessThan 4 = .ok (.aload_n 1, 1) := by decide +kernel
theorem dX2_usedLessThan_5 : decode cX2_usedLessThan 5 = .ok (.getfield 58, 3) := by decide +kernel
theorem dX2_usedLessThan_8 : decode cX2_usedLessThan 8 = .ok (.i2l, 1) := by decide +kernel
theorem dX2_usedLessThan_9 : decode cX2_usedLessThan 9 = .ok (.lmul, 1) := by decide +kernel
theorem dX2_usedLessThan_10 : decode cX2_usedLessThan 10 = .ok (.aload_n 1, 1) := by decide +kernel
theorem dX2_usedLessThan_11 : decode cX2_usedLessThan 11 = .ok (.getfield 29, 3) := by decide +kernel
theorem dX2_usedLessThan_14 : decode cX2_usedLessThan 14 = .ok (.aload_n 0, 1) := by decide +kernel
theorem dX2_usedLessThan_15 : decode cX2_usedLessThan 15 = .ok (.getfield 58, 3) := by decide +kernel
theorem dX2_usedLessThan_18 : decode cX2_usedLessThan 18 = .ok (.i2l, 1) := by decide +kernel
theorem dX2_usedLessThan_19 : decode cX2_usedLessThan 19 = .ok (.lmul, 1) := by decide +kernel
theorem dX2_usedLessThan_20 : decode cX2_usedLessThan 20 = .ok (.lcmp, 1) := by decide +kernel
theorem dX2_usedLessThan_21 : decode cX2_usedLessThan 21 = .ok (.ifCond .ge 7, 3) := by decide +kernel
theorem dX2_usedLessThan_24 : decode cX2_usedLessThan 24 = .ok (.iconst 1, 1) := by decide +kernel
theorem dX2_usedLessThan_25 : decode cX2_usedLessThan 25 = .ok (.goto 4, 3) := by decide +kernel
theorem dX2_usedLessThan_28 : decode cX2_usedLessThan 28 = .ok (.iconst 0, 1) := by decide +kernel
theorem dX2_usedLessThan_29 : decode cX2_usedLessThan 29 = .ok (.ireturn, 1) := by decide +kernel
theorem dX2_settleDemand_0 : decode cX2_settleDemand 0 = .ok (.aload_n 0, 1) := by decide +kernel
theorem dX2_settleDemand_1 : decode cX2_settleDemand 1 = .ok (.getfield 54, 3) := by decide +kernel
theorem dX2_settleDemand_4 : decode cX2_settleDemand 4 = .ok (.ifnull 34, 3) := by decide +kernel
theorem dX2_settleDemand_7 : decode cX2_settleDemand 7 = .ok (.aload_n 0, 1) := by decide +kernel
theorem dX2_settleDemand_8 : decode cX2_settleDemand 8 = .ok (.aload_n 0, 1) := by decide +kernel
theorem dX2_settleDemand_9 : decode cX2_settleDemand 9 = .ok (.getfield 33, 3) := by decide +kernel
theorem dX2_settleDemand_12 : decode cX2_settleDemand 12 = .ok (.aload_n 0, 1) := by decide +kernel
theorem dX2_settleDemand_13 : decode cX2_settleDemand 13 = .ok (.getfield 18, 3) := by decide +kernel
theorem dX2_settleDemand_16 : decode cX2_settleDemand 16 = .ok (.invokestatic 65, 3) := by decide +kernel
theorem dX2_settleDemand_19 : decode cX2_settleDemand 19 = .ok (.putfield 33, 3) := by decide +kernel
theorem dX2_settleDemand_22 : decode cX2_settleDemand 22 = .ok (.aload_n 0, 1) := by decide +kernel
theorem dX2_settleDemand_23 : decode cX2_settleDemand 23 = .ok (.getfield 54, 3) := by decide +kernel
theorem dX2_settleDemand_26 : decode cX2_settleDemand 26 = .ok (.dup, 1) := by decide +kernel
theorem dX2_settleDemand_27 : decode cX2_settleDemand 27 = .ok (.getfield 33, 3) := by decide +kernel
theorem dX2_settleDemand_30 : decode cX2_settleDemand 30 = .ok (.aload_n 0, 1) := by decide +kernel
theorem dX2_settleDemand_31 : decode cX2_settleDemand 31 = .ok (.getfield 33, 3) := by decide +kernel
theorem dX2_settleDemand_34 : decode cX2_settleDemand 34 = .ok (.iadd, 1) := by decide +kernel
theorem dX2_settleDemand_35 : decode cX2_settleDemand 35 = .ok (.putfield 33, 3) := by decide +kernel
theorem dX2_settleDemand_38 : decode cX2_settleDemand 38 = .ok (.return_, 1) := by decide +kernel
theorem dX2_dealToChildren_0 : decode cX2_dealToChildren 0 = .ok (.iconst 0, 1) := by decide +kernel
theorem dX2_dealToChildren_1 : decode cX2_dealToChildren 1 = .ok (.istore_n 1, 1) := by decide +kernel
theorem dX2_dealToChildren_2 : decode cX2_dealToChildren 2 = .ok (.iload_n 1, 1) := by decide +kernel
theorem dX2_dealToChildren_3 : decode cX2_dealToChildren 3 = .ok (.aload_n 0, 1) := by decide +kernel
theorem dX2_dealToChildren_4 : decode cX2_dealToChildren 4 = .ok (.getfield 12, 3) := by decide +kernel
theorem dX2_dealToChildren_7 : decode cX2_dealToChildren 7 = .ok (.invokevirtual 71, 3) := by decide +kernel
theorem dX2_dealToChildren_10 : decode cX2_dealToChildren 10 = .ok (.if_icmp .ge 24, 3) := by decide +kernel
theorem dX2_dealToChildren_13 : decode cX2_dealToChildren 13 = .ok (.aload_n 0, 1) := by decide +kernel
theorem dX2_dealToChildren_14 : decode cX2_dealToChildren 14 = .ok (.getfield 12, 3) := by decide +kernel
theorem dX2_dealToChildren_17 : decode cX2_dealToChildren 17 = .ok (.iload_n 1, 1) := by decide +kernel
theorem dX2_dealToChildren_18 : decode cX2_dealToChildren 18 = .ok (.invokevirtual 75, 3) := by decide +kernel
theorem dX2_dealToChildren_21 : decode cX2_dealToChildren 21 = .ok (.checkcast 13, 3) := by decide +kernel
theorem dX2_dealToChildren_24 : decode cX2_dealToChildren 24 = .ok (.iconst 0, 1) := by decide +kernel
theorem dX2_dealToChildren_25 : decode cX2_dealToChildren 25 = .ok (.putfield 48, 3) := by decide +kernel
theorem dX2_dealToChildren_28 : decode cX2_dealToChildren 28 = .ok (.iinc 1 1, 3) := by decide +kernel
theorem dX2_dealToChildren_31 : decode cX2_dealToChildren 31 = .ok (.goto (-29), 3) := by decide +kernel
theorem dX2_dealToChildren_34 : decode cX2_dealToChildren 34 = .ok (.aload_n 0, 1) := by decide +kernel
theorem dX2_dealToChildren_35 : decode cX2_dealToChildren 35 = .ok (.aload_n 0, 1) := by decide +kernel
theorem dX2_dealToChildren_36 : decode cX2_dealToChildren 36 = .ok (.getfield 36, 3) := by decide +kernel
theorem dX2_dealToChildren_39 : decode cX2_dealToChildren 39 = .ok (.invokevirtual 79, 3) := by decide +kernel
theorem dX2_dealToChildren_42 : decode cX2_dealToChildren 42 = .ok (.iconst 0, 1) := by decide +kernel
theorem dX2_dealToChildren_43 : decode cX2_dealToChildren 43 = .ok (.istore_n 1, 1) := by decide +kernel
theorem dX2_dealToChildren_44 : decode cX2_dealToChildren 44 = .ok (.iload_n 1, 1) := by decide +kernel
theorem dX2_dealToChildren_45 : decode cX2_dealToChildren 45 = .ok (.aload_n 0, 1) := by decide +kernel
theorem dX2_dealToChildren_46 : decode cX2_dealToChildren 46 = .ok (.getfield 12, 3) := by decide +kernel
theorem dX2_dealToChildren_49 : decode cX2_dealToChildren 49 = .ok (.invokevirtual 71, 3) := by decide +kernel
theorem dX2_dealToChildren_52 : decode cX2_dealToChildren 52 = .ok (.if_icmp .ge 29, 3) := by decide +kernel
theorem dX2_dealToChildren_55 : decode cX2_dealToChildren 55 = .ok (.aload_n 0, 1) := by decide +kernel
theorem dX2_dealToChildren_56 : decode cX2_dealToChildren 56 = .ok (.getfield 12, 3) := by decide +kernel
theorem dX2_dealToChildren_59 : decode cX2_dealToChildren 59 = .ok (.iload_n 1, 1) := by decide +kernel
theorem dX2_dealToChildren_60 : decode cX2_dealToChildren 60 = .ok (.invokevirtual 75, 3) := by decide +kernel
theorem dX2_dealToChildren_63 : decode cX2_dealToChildren 63 = .ok (.checkcast 13, 3) := by decide +kernel
theorem dX2_dealToChildren_66 : decode cX2_dealToChildren 66 = .ok (.astore_n 2, 1) := by decide +kernel
theorem dX2_dealToChildren_67 : decode cX2_dealToChildren 67 = .ok (.aload_n 2, 1) := by decide +kernel
theorem dX2_dealToChildren_68 : decode cX2_dealToChildren 68 = .ok (.aload_n 2, 1) := by decide +kernel
theorem dX2_dealToChildren_69 : decode cX2_dealToChildren 69 = .ok (.getfield 48, 3) := by decide +kernel
theorem dX2_dealToChildren_72 : decode cX2_dealToChildren 72 = .ok (.putfield 36, 3) := by decide +kernel
theorem dX2_dealToChildren_75 : decode cX2_dealToChildren 75 = .ok (.iinc 1 1, 3) := by decide +kernel
theorem dX2_dealToChildren_78 : decode cX2_dealToChildren 78 = .ok (.goto (-34), 3) := by decide +kernel
theorem dX2_dealToChildren_81 : decode cX2_dealToChildren 81 = .ok (.return_, 1) := by decide +kernel
theorem dX2_fillChildren_0 : decode cX2_fillChildren 0 = .ok (.aload_n 0, 1) := by decide +kernel
theorem dX2_fillChildren_1 : decode cX2_fillChildren 1 = .ok (.aload_n 0, 1) := by decide +kernel
theorem dX2_fillChildren_2 : decode cX2_fillChildren 2 = .ok (.getfield 39, 3) := by decide +kernel
theorem dX2_fillChildren_5 : decode cX2_fillChildren 5 = .ok (.invokevirtual 83, 3) := by decide +kernel
theorem dX2_fillChildren_8 : decode cX2_fillChildren 8 = .ok (.istore_n 1, 1) := by decide +kernel
theorem dX2_fillChildren_9 : decode cX2_fillChildren 9 = .ok (.iconst 0, 1) := by decide +kernel
theorem dX2_fillChildren_10 : decode cX2_fillChildren 10 = .ok (.istore_n 2, 1) := by decide +kernel
theorem dX2_fillChildren_11 : decode cX2_fillChildren 11 = .ok (.iload_n 2, 1) := by decide +kernel
theorem dX2_fillChildren_12 : decode cX2_fillChildren 12 = .ok (.aload_n 0, 1) := by decide +kernel
theorem dX2_fillChildren_13 : decode cX2_fillChildren 13 = .ok (.getfield 12, 3) := by decide +kernel
theorem dX2_fillChildren_16 : decode cX2_fillChildren 16 = .ok (.invokevirtual 71, 3) := by decide +kernel
theorem dX2_fillChildren_19 : decode cX2_fillChildren 19 = .ok (.if_icmp .ge 30, 3) := by decide +kernel
theorem dX2_fillChildren_22 : decode cX2_fillChildren 22 = .ok (.aload_n 0, 1) := by decide +kernel
theorem dX2_fillChildren_23 : decode cX2_fillChildren 23 = .ok (.getfield 12, 3) := by decide +kernel
theorem dX2_fillChildren_26 : decode cX2_fillChildren 26 = .ok (.iload_n 2, 1) := by decide +kernel
theorem dX2_fillChildren_27 : decode cX2_fillChildren 27 = .ok (.invokevirtual 75, 3) := by decide +kernel
theorem dX2_fillChildren_30 : decode cX2_fillChildren 30 = .ok (.checkcast 13, 3) := by decide +kernel
theorem dX2_fillChildren_33 : decode cX2_fillChildren 33 = .ok (.astore_n 3, 1) := by decide +kernel
theorem dX2_fillChildren_34 : decode cX2_fillChildren 34 = .ok (.aload_n 3, 1) := by decide +kernel
theorem dX2_fillChildren_35 : decode cX2_fillChildren 35 = .ok (.aload_n 3, 1) := by decide +kernel
theorem dX2_fillChildren_36 : decode cX2_fillChildren 36 = .ok (.iload_n 1, 1) := by decide +kernel
theorem dX2_fillChildren_37 : decode cX2_fillChildren 37 = .ok (.invokevirtual 87, 3) := by decide +kernel
theorem dX2_fillChildren_40 : decode cX2_fillChildren 40 = .ok (.putfield 48, 3) := by decide +kernel
theorem dX2_fillChildren_43 : decode cX2_fillChildren 43 = .ok (.iinc 2 1, 3) := by decide +kernel
theorem dX2_fillChildren_46 : decode cX2_fillChildren 46 = .ok (.goto (-35), 3) := by decide +kernel
theorem dX2_fillChildren_49 : decode cX2_fillChildren 49 = .ok (.aload_n 0, 1) := by decide +kernel
theorem dX2_fillChildren_50 : decode cX2_fillChildren 50 = .ok (.aload_n 0, 1) := by decide +kernel
theorem dX2_fillChildren_51 : decode cX2_fillChildren 51 = .ok (.getfield 39, 3) := by decide +kernel
theorem dX2_fillChildren_54 : decode cX2_fillChildren 54 = .ok (.aload_n 0, 1) := by decide +kernel
theorem dX2_fillChildren_55 : decode cX2_fillChildren 55 = .ok (.iload_n 1, 1) := by decide +kernel
theorem dX2_fillChildren_56 : decode cX2_fillChildren 56 = .ok (.invokevirtual 90, 3) := by decide +kernel
theorem dX2_fillChildren_59 : decode cX2_fillChildren 59 = .ok (.isub, 1) := by decide +kernel
theorem dX2_fillChildren_60 : decode cX2_fillChildren 60 = .ok (.invokevirtual 79, 3) := by decide +kernel
theorem dX2_fillChildren_63 : decode cX2_fillChildren 63 = .ok (.iconst 0, 1) := by decide +kernel
theorem dX2_fillChildren_64 : decode cX2_fillChildren 64 = .ok (.istore_n 2, 1) := by decide +kernel
theorem dX2_fillChildren_65 : decode cX2_fillChildren 65 = .ok (.iload_n 2, 1) := by decide +kernel
theorem dX2_fillChildren_66 : decode cX2_fillChildren 66 = .ok (.aload_n 0, 1) := by decide +kernel
theorem dX2_fillChildren_67 : decode cX2_fillChildren 67 = .ok (.getfield 12, 3) := by decide +kernel
theorem dX2_fillChildren_70 : decode cX2_fillChildren 70 = .ok (.invokevirtual 71, 3) := by decide +kernel
theorem dX2_fillChildren_73 : decode cX2_fillChildren 73 = .ok (.if_icmp .ge 29, 3) := by decide +kernel
theorem dX2_fillChildren_76 : decode cX2_fillChildren 76 = .ok (.aload_n 0, 1) := by decide +kernel
theorem dX2_fillChildren_77 : decode cX2_fillChildren 77 = .ok (.getfield 12, 3) := by decide +kernel
theorem dX2_fillChildren_80 : decode cX2_fillChildren 80 = .ok (.iload_n 2, 1) := by decide +kernel
theorem dX2_fillChildren_81 : decode cX2_fillChildren 81 = .ok (.invokevirtual 75, 3) := by decide +kernel
theorem dX2_fillChildren_84 : decode cX2_fillChildren 84 = .ok (.checkcast 13, 3) := by decide +kernel
theorem dX2_fillChildren_87 : decode cX2_fillChildren 87 = .ok (.astore_n 3, 1) := by decide +kernel
theorem dX2_fillChildren_88 : decode cX2_fillChildren 88 = .ok (.aload_n 3, 1) := by decide +kernel
theorem dX2_fillChildren_89 : decode cX2_fillChildren 89 = .ok (.aload_n 3, 1) := by decide +kernel
theorem dX2_fillChildren_90 : decode cX2_fillChildren 90 = .ok (.getfield 48, 3) := by decide +kernel
theorem dX2_fillChildren_93 : decode cX2_fillChildren 93 = .ok (.putfield 39, 3) := by decide +kernel
theorem dX2_fillChildren_96 : decode cX2_fillChildren 96 = .ok (.iinc 2 1, 3) := by decide +kernel
theorem dX2_fillChildren_99 : decode cX2_fillChildren 99 = .ok (.goto (-34), 3) := by decide +kernel
theorem dX2_fillChildren_102 : decode cX2_fillChildren 102 = .ok (.return_, 1) := by decide +kernel
theorem dX2_giveOneByOne_0 : decode cX2_giveOneByOne 0 = .ok (.iconst 0, 1) := by decide +kernel
theorem dX2_giveOneByOne_1 : decode cX2_giveOneByOne 1 = .ok (.istore_n 2, 1) := by decide +kernel
theorem dX2_giveOneByOne_2 : decode cX2_giveOneByOne 2 = .ok (.iload_n 2, 1) := by decide +kernel
theorem dX2_giveOneByOne_3 : decode cX2_giveOneByOne 3 = .ok (.iload_n 1, 1) := by decide +kernel
theorem dX2_giveOneByOne_4 : decode cX2_giveOneByOne 4 = .ok (.if_icmp .ge 28, 3) := by decide +kernel
theorem dX2_giveOneByOne_7 : decode cX2_giveOneByOne 7 = .ok (.aload_n 0, 1) := by decide +kernel
theorem dX2_giveOneByOne_8 : decode cX2_giveOneByOne 8 = .ok (.invokevirtual 93, 3) := by decide +kernel
theorem dX2_giveOneByOne_11 : decode cX2_giveOneByOne 11 = .ok (.astore_n 3, 1) := by decide +kernel
theorem dX2_giveOneByOne_12 : decode cX2_giveOneByOne 12 = .ok (.aload_n 3, 1) := by decide +kernel
theorem dX2_giveOneByOne_13 : decode cX2_giveOneByOne 13 = .ok (.ifnull 13, 3) := by decide +kernel
theorem dX2_giveOneByOne_16 : decode cX2_giveOneByOne 16 = .ok (.aload_n 3, 1) := by decide +kernel
theorem dX2_giveOneByOne_17 : decode cX2_giveOneByOne 17 = .ok (.dup, 1) := by decide +kernel
theorem dX2_giveOneByOne_18 : decode cX2_giveOneByOne 18 = .ok (.getfield 48, 3) := by decide +kernel
theorem dX2_giveOneByOne_21 : decode cX2_giveOneByOne 21 = .ok (.iconst 1, 1) := by decide +kernel
theorem dX2_giveOneByOne_22 : decode cX2_giveOneByOne 22 = .ok (.iadd, 1) := by decide +kernel
theorem dX2_giveOneByOne_23 : decode cX2_giveOneByOne 23 = .ok (.putfield 48, 3) := by decide +kernel
theorem dX2_giveOneByOne_26 : decode cX2_giveOneByOne 26 = .ok (.iinc 2 1, 3) := by decide +kernel
theorem dX2_giveOneByOne_29 : decode cX2_giveOneByOne 29 = .ok (.goto (-27), 3) := by decide +kernel
theorem dX2_giveOneByOne_32 : decode cX2_giveOneByOne 32 = .ok (.return_, 1) := by decide +kernel
theorem dX2_neediestChild_0 : decode cX2_neediestChild 0 = .ok (.aconst_null, 1) := by decide +kernel
theorem dX2_neediestChild_1 : decode cX2_neediestChild 1 = .ok (.astore_n 1, 1) := by decide +kernel
theorem dX2_neediestChild_2 : decode cX2_neediestChild 2 = .ok (.iconst 0, 1) := by decide +kernel
theorem dX2_neediestChild_3 : decode cX2_neediestChild 3 = .ok (.istore_n 2, 1) := by decide +kernel
theorem dX2_neediestChild_4 : decode cX2_neediestChild 4 = .ok (.iload_n 2, 1) := by decide +kernel
theorem dX2_neediestChild_5 : decode cX2_neediestChild 5 = .ok (.aload_n 0, 1) := by decide +kernel
theorem dX2_neediestChild_6 : decode cX2_neediestChild 6 = .ok (.getfield 12, 3) := by decide +kernel
theorem dX2_neediestChild_9 : decode cX2_neediestChild 9 = .ok (.invokevirtual 71, 3) := by decide +kernel
theorem dX2_neediestChild_12 : decode cX2_neediestChild 12 = .ok (.if_icmp .ge 59, 3) := by decide +kernel
theorem dX2_neediestChild_15 : decode cX2_neediestChild 15 = .ok (.aload_n 0, 1) := by decide +kernel
theorem dX2_neediestChild_16 : decode cX2_neediestChild 16 = .ok (.getfield 12, 3) := by decide +kernel
theorem dX2_neediestChild_19 : decode cX2_neediestChild 19 = .ok (.iload_n 2, 1) := by decide +kernel
theorem dX2_neediestChild_20 : decode cX2_neediestChild 20 = .ok (.invokevirtual 75, 3) := by decide +kernel
theorem dX2_neediestChild_23 : decode cX2_neediestChild 23 = .ok (.checkcast 13, 3) := by decide +kernel
theorem dX2_neediestChild_26 : decode cX2_neediestChild 26 = .ok (.astore_n 3, 1) := by decide +kernel
theorem dX2_neediestChild_27 : decode cX2_neediestChild 27 = .ok (.aload_n 3, 1) := by decide +kernel
theorem dX2_neediestChild_28 : decode cX2_neediestChild 28 = .ok (.getfield 48, 3) := by decide +kernel
theorem dX2_neediestChild_31 : decode cX2_neediestChild 31 = .ok (.aload_n 3, 1) := by decide +kernel
theorem dX2_neediestChild_32 : decode cX2_neediestChild 32 = .ok (.getfield 33, 3) := by decide +kernel
theorem dX2_neediestChild_35 : decode cX2_neediestChild 35 = .ok (.if_icmp .ge 30, 3) := by decide +kernel
theorem dX2_neediestChild_38 : decode cX2_neediestChild 38 = .ok (.aload_n 1, 1) := by decide +kernel
theorem dX2_neediestChild_39 : decode cX2_neediestChild 39 = .ok (.ifnull 24, 3) := by decide +kernel
theorem dX2_neediestChild_42 : decode cX2_neediestChild 42 = .ok (.aload_n 3, 1) := by decide +kernel
theorem dX2_neediestChild_43 : decode cX2_neediestChild 43 = .ok (.getfield 48, 3) := by decide +kernel
theorem dX2_neediestChild_46 : decode cX2_neediestChild 46 = .ok (.aload_n 1, 1) := by decide +kernel
theorem dX2_neediestChild_47 : decode cX2_neediestChild 47 = .ok (.getfield 58, 3) := by decide +kernel
theorem dX2_neediestChild_50 : decode cX2_neediestChild 50 = .ok (.imul, 1) := by decide +kernel
theorem dX2_neediestChild_51 : decode cX2_neediestChild 51 = .ok (.aload_n 1, 1) := by decide +kernel
theorem dX2_neediestChild_52 : decode cX2_neediestChild 52 = .ok (.getfield 48, 3) := by decide +kernel
theorem dX2_neediestChild_55 : decode cX2_neediestChild 55 = .ok (.aload_n 3, 1) := by decide +kernel
theorem dX2_neediestChild_56 : decode cX2_neediestChild 56 = .ok (.getfield 58, 3) := by decide +kernel
theorem dX2_neediestChild_59 : decode cX2_neediestChild 59 = .ok (.imul, 1) := by decide +kernel
theorem dX2_neediestChild_60 : decode cX2_neediestChild 60 = .ok (.if_icmp .ge 5, 3) := by decide +kernel
theorem dX2_neediestChild_63 : decode cX2_neediestChild 63 = .ok (.aload_n 3, 1) := by decide +kernel
theorem dX2_neediestChild_64 : decode cX2_neediestChild 64 = .ok (.astore_n 1, 1) := by decide +kernel
theorem dX2_neediestChild_65 : decode cX2_neediestChild 65 = .ok (.iinc 2 1, 3) := by decide +kernel
theorem dX2_neediestChild_68 : decode cX2_neediestChild 68 = .ok (.goto (-64), 3) := by decide +kernel
theorem dX2_neediestChild_71 : decode cX2_neediestChild 71 = .ok (.aload_n 1, 1) := by decide +kernel
theorem dX2_neediestChild_72 : decode cX2_neediestChild 72 = .ok (.areturn, 1) := by decide +kernel
theorem dX2_levelWithin_0 : decode cX2_levelWithin 0 = .ok (.iconst 0, 1) := by decide +kernel
theorem dX2_levelWithin_1 : decode cX2_levelWithin 1 = .ok (.istore_n 2, 1) := by decide +kernel
theorem dX2_levelWithin_2 : decode cX2_levelWithin 2 = .ok (.sipush 128, 3) := by decide +kernel
theorem dX2_levelWithin_5 : decode cX2_levelWithin 5 = .ok (.istore_n 3, 1) := by decide +kernel
theorem dX2_levelWithin_6 : decode cX2_levelWithin 6 = .ok (.iload_n 3, 1) := by decide +kernel
theorem dX2_levelWithin_7 : decode cX2_levelWithin 7 = .ok (.ifCond .le 25, 3) := by decide +kernel
theorem dX2_levelWithin_10 : decode cX2_levelWithin 10 = .ok (.aload_n 0, 1) := by decide +kernel
theorem dX2_levelWithin_11 : decode cX2_levelWithin 11 = .ok (.iload_n 2, 1) := by decide +kernel
theorem dX2_levelWithin_12 : decode cX2_levelWithin 12 = .ok (.iload_n 3, 1) := by decide +kernel
theorem dX2_levelWithin_13 : decode cX2_levelWithin 13 = .ok (.iadd, 1) := by decide +kernel
theorem dX2_levelWithin_14 : decode cX2_levelWithin 14 = .ok (.invokevirtual 90, 3) := by decide +kernel
theorem dX2_levelWithin_17 : decode cX2_levelWithin 17 = .ok (.iload_n 1, 1) := by decide +kernel
theorem dX2_levelWithin_18 : decode cX2_levelWithin 18 = .ok (.if_icmp .gt 7, 3) := by decide +kernel
theorem dX2_levelWithin_21 : decode cX2_levelWithin 21 = .ok (.iload_n 2, 1) := by decide +kernel
theorem dX2_levelWithin_22 : decode cX2_levelWithin 22 = .ok (.iload_n 3, 1) := by decide +kernel
theorem dX2_levelWithin_23 : decode cX2_levelWithin 23 = .ok (.iadd, 1) := by decide +kernel
theorem dX2_levelWithin_24 : decode cX2_levelWithin 24 = .ok (.istore_n 2, 1) := by decide +kernel
theorem dX2_levelWithin_25 : decode cX2_levelWithin 25 = .ok (.iload_n 3, 1) := by decide +kernel
theorem dX2_levelWithin_26 : decode cX2_levelWithin 26 = .ok (.iconst 2, 1) := by decide +kernel
theorem dX2_levelWithin_27 : decode cX2_levelWithin 27 = .ok (.idiv, 1) := by decide +kernel
theorem dX2_levelWithin_28 : decode cX2_levelWithin 28 = .ok (.istore_n 3, 1) := by decide +kernel
theorem dX2_levelWithin_29 : decode cX2_levelWithin 29 = .ok (.goto (-23), 3) := by decide +kernel
theorem dX2_levelWithin_32 : decode cX2_levelWithin 32 = .ok (.iload_n 2, 1) := by decide +kernel
theorem dX2_levelWithin_33 : decode cX2_levelWithin 33 = .ok (.ireturn, 1) := by decide +kernel
theorem dX2_childrenUnitsAtLevel_0 : decode cX2_childrenUnitsAtLevel 0 = .ok (.iconst 0, 1) := by decide +kernel
theorem dX2_childrenUnitsAtLevel_1 : decode cX2_childrenUnitsAtLevel 1 = .ok (.istore_n 2, 1) := by decide +kernel
theorem dX2_childrenUnitsAtLevel_2 : decode cX2_childrenUnitsAtLevel 2 = .ok (.iconst 0, 1) := by decide +kernel
theorem dX2_childrenUnitsAtLevel_3 : decode cX2_childrenUnitsAtLevel 3 = .ok (.istore_n 3, 1) := by decide +kernel
theorem dX2_childrenUnitsAtLevel_4 : decode cX2_childrenUnitsAtLevel 4 = .ok (.iload_n 3, 1) := by decide +kernel
theorem dX2_childrenUnitsAtLevel_5 : decode cX2_childrenUnitsAtLevel 5 = .ok (.aload_n 0, 1) := by decide +kernel
theorem dX2_childrenUnitsAtLevel_6 : decode cX2_childrenUnitsAtLevel 6 = .ok (.getfield 12, 3) := by decide +kernel
theorem dX2_childrenUnitsAtLevel_9 : decode cX2_childrenUnitsAtLevel 9 = .ok (.invokevirtual 71, 3) := by decide +kernel
theorem dX2_childrenUnitsAtLevel_12 : decode cX2_childrenUnitsAtLevel 12 = .ok (.if_icmp .ge 27, 3) := by decide +kernel
theorem dX2_childrenUnitsAtLevel_15 : decode cX2_childrenUnitsAtLevel 15 = .ok (.iload_n 2, 1) := by decide +kernel
theorem dX2_childrenUnitsAtLevel_16 : decode cX2_childrenUnitsAtLevel 16 = .ok (.aload_n 0, 1) := by decide +kernel
theorem dX2_childrenUnitsAtLevel_17 : decode cX2_childrenUnitsAtLevel 17 = .ok (.getfield 12, 3) := by decide +kernel
theorem dX2_childrenUnitsAtLevel_20 : decode cX2_childrenUnitsAtLevel 20 = .ok (.iload_n 3, 1) := by decide +kernel
theorem dX2_childrenUnitsAtLevel_21 : decode cX2_childrenUnitsAtLevel 21 = .ok (.invokevirtual 75, 3) := by decide +kernel
theorem dX2_childrenUnitsAtLevel_24 : decode cX2_childrenUnitsAtLevel 24 = .ok (.checkcast 13, 3) := by decide +kernel
theorem dX2_childrenUnitsAtLevel_27 : decode cX2_childrenUnitsAtLevel 27 = .ok (.iload_n 1, 1) := by decide +kernel
theorem dX2_childrenUnitsAtLevel_28 : decode cX2_childrenUnitsAtLevel 28 = .ok (.invokevirtual 87, 3) := by decide +kernel
theorem dX2_childrenUnitsAtLevel_31 : decode cX2_childrenUnitsAtLevel 31 = .ok (.iadd, 1) := by decide +kernel
theorem dX2_childrenUnitsAtLevel_32 : decode cX2_childrenUnitsAtLevel 32 = .ok (.istore_n 2, 1) := by decide +kernel
theorem dX2_childrenUnitsAtLevel_33 : decode cX2_childrenUnitsAtLevel 33 = .ok (.iinc 3 1, 3) := by decide +kernel
theorem dX2_childrenUnitsAtLevel_36 : decode cX2_childrenUnitsAtLevel 36 = .ok (.goto (-32), 3) := by decide +kernel
theorem dX2_childrenUnitsAtLevel_39 : decode cX2_childrenUnitsAtLevel 39 = .ok (.iload_n 2, 1) := by decide +kernel
theorem dX2_childrenUnitsAtLevel_40 : decode cX2_childrenUnitsAtLevel 40 = .ok (.ireturn, 1) := by decide +kernel
theorem dX2_unitsAtLevel_0 : decode cX2_unitsAtLevel 0 = .ok (.aload_n 0, 1) := by decide +kernel
theorem dX2_unitsAtLevel_1 : decode cX2_unitsAtLevel 1 = .ok (.getfield 33, 3) := by decide +kernel
theorem dX2_unitsAtLevel_4 : decode cX2_unitsAtLevel 4 = .ok (.iload_n 1, 1) := by decide +kernel
theorem dX2_unitsAtLevel_5 : decode cX2_unitsAtLevel 5 = .ok (.aload_n 0, 1) := by decide +kernel
theorem dX2_unitsAtLevel_6 : decode cX2_unitsAtLevel 6 = .ok (.getfield 58, 3) := by decide +kernel
theorem dX2_unitsAtLevel_9 : decode cX2_unitsAtLevel 9 = .ok (.imul, 1) := by decide +kernel
theorem dX2_unitsAtLevel_10 : decode cX2_unitsAtLevel 10 = .ok (.invokestatic 65, 3) := by decide +kernel
theorem dX2_unitsAtLevel_13 : decode cX2_unitsAtLevel 13 = .ok (.ireturn, 1) := by decide +kernel
theorem dX2_sharesOfChildren_0 : decode cX2_sharesOfChildren 0 = .ok (.iconst 0, 1) := by decide +kernel
theorem dX2_sharesOfChildren_1 : decode cX2_sharesOfChildren 1 = .ok (.istore_n 1, 1) := by decide +kernel
theorem dX2_sharesOfChildren_2 : decode cX2_sharesOfChildren 2 = .ok (.iconst 0, 1) := by decide +kernel
theorem dX2_sharesOfChildren_3 : decode cX2_sharesOfChildren 3 = .ok (.istore_n 2, 1) := by decide +kernel
theorem dX2_sharesOfChildren_4 : decode cX2_sharesOfChildren 4 = .ok (.iload_n 2, 1) := by decide +kernel
theorem dX2_sharesOfChildren_5 : decode cX2_sharesOfChildren 5 = .ok (.aload_n 0, 1) := by decide +kernel
theorem dX2_sharesOfChildren_6 : decode cX2_sharesOfChildren 6 = .ok (.getfield 12, 3) := by decide +kernel
theorem dX2_sharesOfChildren_9 : decode cX2_sharesOfChildren 9 = .ok (.invokevirtual 71, 3) := by decide +kernel
theorem dX2_sharesOfChildren_12 : decode cX2_sharesOfChildren 12 = .ok (.if_icmp .ge 26, 3) := by decide +kernel
theorem dX2_sharesOfChildren_15 : decode cX2_sharesOfChildren 15 = .ok (.iload_n 1, 1) := by decide +kernel
theorem dX2_sharesOfChildren_16 : decode cX2_sharesOfChildren 16 = .ok (.aload_n 0, 1) := by decide +kernel
theorem dX2_sharesOfChildren_17 : decode cX2_sharesOfChildren 17 = .ok (.getfield 12, 3) := by decide +kernel
theorem dX2_sharesOfChildren_20 : decode cX2_sharesOfChildren 20 = .ok (.iload_n 2, 1) := by decide +kernel
theorem dX2_sharesOfChildren_21 : decode cX2_sharesOfChildren 21 = .ok (.invokevirtual 75, 3) := by decide +kernel
theorem dX2_sharesOfChildren_24 : decode cX2_sharesOfChildren 24 = .ok (.checkcast 13, 3) := by decide +kernel
theorem dX2_sharesOfChildren_27 : decode cX2_sharesOfChildren 27 = .ok (.getfield 36, 3) := by decide +kernel
theorem dX2_sharesOfChildren_30 : decode cX2_sharesOfChildren 30 = .ok (.iadd, 1) := by decide +kernel
theorem dX2_sharesOfChildren_31 : decode cX2_sharesOfChildren 31 = .ok (.istore_n 1, 1) := by decide +kernel
theorem dX2_sharesOfChildren_32 : decode cX2_sharesOfChildren 32 = .ok (.iinc 2 1, 3) := by decide +kernel
theorem dX2_sharesOfChildren_35 : decode cX2_sharesOfChildren 35 = .ok (.goto (-31), 3) := by decide +kernel
theorem dX2_sharesOfChildren_38 : decode cX2_sharesOfChildren 38 = .ok (.iload_n 1, 1) := by decide +kernel
theorem dX2_sharesOfChildren_39 : decode cX2_sharesOfChildren 39 = .ok (.ireturn, 1) := by decide +kernel
theorem dX3_init_0 : decode cX3_init 0 = .ok (.aload_n 0, 1) := by decide +kernel
theorem dX3_init_1 : decode cX3_init 1 = .ok (.invokespecial 1, 3) := by decide +kernel
theorem dX3_init_4 : decode cX3_init 4 = .ok (.aload_n 0, 1) := by decide +kernel
theorem dX3_init_5 : decode cX3_init 5 = .ok (.new 7, 3) := by decide +kernel
theorem dX3_init_8 : decode cX3_init 8 = .ok (.dup, 1) := by decide +kernel
theorem dX3_init_9 : decode cX3_init 9 = .ok (.invokespecial 9, 3) := by decide +kernel
theorem dX3_init_12 : decode cX3_init 12 = .ok (.putfield 10, 3) := by decide +kernel
theorem dX3_init_15 : decode cX3_init 15 = .ok (.aload_n 0, 1) := by decide +kernel
theorem dX3_init_16 : decode cX3_init 16 = .ok (.new 16, 3) := by decide +kernel
theorem dX3_init_19 : decode cX3_init 19 = .ok (.dup, 1) := by decide +kernel
theorem dX3_init_20 : decode cX3_init 20 = .ok (.iconst 0, 1) := by decide +kernel
theorem dX3_init_21 : decode cX3_init 21 = .ok (.aconst_null, 1) := by decide +kernel
theorem dX3_init_22 : decode cX3_init 22 = .ok (.iconst 1, 1) := by decide +kernel
theorem dX3_init_23 : decode cX3_init 23 = .ok (.invokespecial 18, 3) := by decide +kernel
theorem dX3_init_26 : decode cX3_init 26 = .ok (.putfield 21, 3) := by decide +kernel
theorem dX3_init_29 : decode cX3_init 29 = .ok (.aload_n 0, 1) := by decide +kernel
theorem dX3_init_30 : decode cX3_init 30 = .ok (.new 7, 3) := by decide +kernel
theorem dX3_init_33 : decode cX3_init 33 = .ok (.dup, 1) := by decide +kernel
theorem dX3_init_34 : decode cX3_init 34 = .ok (.invokespecial 9, 3) := by decide +kernel
theorem dX3_init_37 : decode cX3_init 37 = .ok (.putfield 25, 3) := by decide +kernel
theorem dX3_init_40 : decode cX3_init 40 = .ok (.aload_n 0, 1) := by decide +kernel
theorem dX3_init_41 : decode cX3_init 41 = .ok (.new 7, 3) := by decide +kernel
theorem dX3_init_44 : decode cX3_init 44 = .ok (.dup, 1) := by decide +kernel
theorem dX3_init_45 : decode cX3_init 45 = .ok (.invokespecial 9, 3) := by decide +kernel
theorem dX3_init_48 : decode cX3_init 48 = .ok (.putfield 28, 3) := by decide +kernel
theorem dX3_init_51 : decode cX3_init 51 = .ok (.aload_n 0, 1) := by decide +kernel
theorem dX3_init_52 : decode cX3_init 52 = .ok (.new 7, 3) := by decide +kernel
theorem dX3_init_55 : decode cX3_init 55 = .ok (.dup, 1) := by decide +kernel
theorem dX3_init_56 : decode cX3_init 56 = .ok (.invokespecial 9, 3) := by decide +kernel
theorem dX3_init_59 : decode cX3_init 59 = .ok (.putfield 31, 3) := by decide +kernel
theorem dX3_init_62 : decode cX3_init 62 = .ok (.aload_n 0, 1) := by decide +kernel
theorem dX3_init_63 : decode cX3_init 63 = .ok (.new 7, 3) := by decide +kernel
theorem dX3_init_66 : decode cX3_init 66 = .ok (.dup, 1) := by decide +kernel
theorem dX3_init_67 : decode cX3_init 67 = .ok (.invokespecial 9, 3) := by decide +kernel
theorem dX3_init_70 : decode cX3_init 70 = .ok (.putfield 34, 3) := by decide +kernel
theorem dX3_init_73 : decode cX3_init 73 = .ok (.aload_n 0, 1) := by decide +kernel
theorem dX3_init_74 : decode cX3_init 74 = .ok (.new 7, 3) := by decide +kernel
theorem dX3_init_77 : decode cX3_init 77 = .ok (.dup, 1) := by decide +kernel
theorem dX3_init_78 : decode cX3_init 78 = .ok (.invokespecial 9, 3) := by decide +kernel
theorem dX3_init_81 : decode cX3_init 81 = .ok (.putfield 37, 3) := by decide +kernel
theorem dX3_init_84 : decode cX3_init 84 = .ok (.aload_n 0, 1) := by decide +kernel
theorem dX3_init_85 : decode cX3_init 85 = .ok (.bipush 20, 2) := by decide +kernel
theorem dX3_init_87 : decode cX3_init 87 = .ok (.putfield 40, 3) := by decide +kernel
theorem dX3_init_90 : decode cX3_init 90 = .ok (.aload_n 0, 1) := by decide +kernel
theorem dX3_init_91 : decode cX3_init 91 = .ok (.bipush 10, 2) := by decide +kernel
theorem dX3_init_93 : decode cX3_init 93 = .ok (.putfield 44, 3) := by decide +kernel
theorem dX3_init_96 : decode cX3_init 96 = .ok (.aload_n 0, 1) := by decide +kernel
theorem dX3_init_97 : decode cX3_init 97 = .ok (.iconst 0, 1) := by decide +kernel
theorem dX3_init_98 : decode cX3_init 98 = .ok (.putfield 47, 3) := by decide +kernel
theorem dX3_init_101 : decode cX3_init 101 = .ok (.aload_n 0, 1) := by decide +kernel
theorem dX3_init_102 : decode cX3_init 102 = .ok (.iconst 0, 1) := by decide +kernel
theorem dX3_init_103 : decode cX3_init 103 = .ok (.putfield 50, 3) := by decide +kernel
theorem dX3_init_106 : decode cX3_init 106 = .ok (.aload_n 0, 1) := by decide +kernel
theorem dX3_init_107 : decode cX3_init 107 = .ok (.getfield 10, 3) := by decide +kernel
theorem dX3_init_110 : decode cX3_init 110 = .ok (.aload_n 0, 1) := by decide +kernel
theorem dX3_init_111 : decode cX3_init 111 = .ok (.getfield 21, 3) := by decide +kernel
theorem dX3_init_114 : decode cX3_init 114 = .ok (.invokevirtual 53, 3) := by decide +kernel
theorem dX3_init_117 : decode cX3_init 117 = .ok (.pop, 1) := by decide +kernel
theorem dX3_init_118 : decode cX3_init 118 = .ok (.return_, 1) := by decide +kernel
theorem dX3_addTeam_0 : decode cX3_addTeam 0 = .ok (.aload_n 0, 1) := by decide +kernel
theorem dX3_addTeam_1 : decode cX3_addTeam 1 = .ok (.iload_n 1, 1) := by decide +kernel
theorem dX3_addTeam_2 : decode cX3_addTeam 2 = .ok (.invokevirtual 57, 3) := by decide +kernel
theorem dX3_addTeam_5 : decode cX3_addTeam 5 = .ok (.astore_n 3, 1) := by decide +kernel
theorem dX3_addTeam_6 : decode cX3_addTeam 6 = .ok (.iload_n 2, 1) := by decide +kernel
theorem dX3_addTeam_7 : decode cX3_addTeam 7 = .ok (.iconst 1, 1) := by decide +kernel
theorem dX3_addTeam_8 : decode cX3_addTeam 8 = .ok (.bipush 9, 2) := by decide +kernel
theorem dX3_addTeam_10 : decode cX3_addTeam 10 = .ok (.invokestatic 61, 3) := by decide +kernel
theorem dX3_addTeam_13 : decode cX3_addTeam 13 = .ok (.aload_n 0, 1) := by decide +kernel
theorem dX3_addTeam_14 : decode cX3_addTeam 14 = .ok (.getfield 10, 3) := by decide +kernel
theorem dX3_addTeam_17 : decode cX3_addTeam 17 = .ok (.invokevirtual 65, 3) := by decide +kernel
theorem dX3_addTeam_20 : decode cX3_addTeam 20 = .ok (.bipush 10, 2) := by decide +kernel
theorem dX3_addTeam_22 : decode cX3_addTeam 22 = .ok (.if_icmp .ge 10, 3) := by decide +kernel
theorem dX3_addTeam_25 : decode cX3_addTeam 25 = .ok (.aload_n 3, 1) := by decide +kernel
theorem dX3_addTeam_26 : decode cX3_addTeam 26 = .ok (.getfield 69, 3) := by decide +kernel
theorem dX3_addTeam_29 : decode cX3_addTeam 29 = .ok (.ifCond .eq 13, 3) := by decide +kernel
theorem dX3_addTeam_32 : decode cX3_addTeam 32 = .ok (.new 73, 3) := by decide +kernel
theorem dX3_addTeam_35 : decode cX3_addTeam 35 = .ok (.dup, 1) := by decide +kernel
theorem dX3_addTeam_36 : decode cX3_addTeam 36 = .ok (.ldc 75, 2) := by decide +kernel
theorem dX3_addTeam_38 : decode cX3_addTeam 38 = .ok (.invokespecial 77, 3) := by decide +kernel
theorem dX3_addTeam_41 : decode cX3_addTeam 41 = .ok (.athrow, 1) := by decide +kernel
theorem dX3_addTeam_42 : decode cX3_addTeam 42 = .ok (.new 16, 3) := by decide +kernel
theorem dX3_addTeam_45 : decode cX3_addTeam 45 = .ok (.dup, 1) := by decide +kernel
theorem dX3_addTeam_46 : decode cX3_addTeam 46 = .ok (.aload_n 0, 1) := by decide +kernel
theorem dX3_addTeam_47 : decode cX3_addTeam 47 = .ok (.getfield 10, 3) := by decide +kernel
theorem dX3_addTeam_50 : decode cX3_addTeam 50 = .ok (.invokevirtual 65, 3) := by decide +kernel
theorem dX3_addTeam_53 : decode cX3_addTeam 53 = .ok (.aload_n 3, 1) := by decide +kernel
theorem dX3_addTeam_54 : decode cX3_addTeam 54 = .ok (.iload_n 2, 1) := by decide +kernel
theorem dX3_addTeam_55 : decode cX3_addTeam 55 = .ok (.invokespecial 18, 3) := by decide +kernel
theorem dX3_addTeam_58 : decode cX3_addTeam 58 = .ok (.astore 4, 2) := by decide +kernel
theorem dX3_addTeam_60 : decode cX3_addTeam 60 = .ok (.aload_n 0, 1) := by decide +kernel
theorem dX3_addTeam_61 : decode cX3_addTeam 61 = .ok (.getfield 10, 3) := by decide +kernel
theorem dX3_addTeam_64 : decode cX3_addTeam 64 = .ok (.aload 4, 2) := by decide +kernel
theorem dX3_addTeam_66 : decode cX3_addTeam 66 = .ok (.invokevirtual 53, 3) := by decide +kernel
theorem dX3_addTeam_69 : decode cX3_addTeam 69 = .ok (.pop, 1) := by decide +kernel
theorem dX3_addTeam_70 : decode cX3_addTeam 70 = .ok (.aload_n 3, 1) := by decide +kernel
theorem dX3_addTeam_71 : decode cX3_addTeam 71 = .ok (.getfield 80, 3) := by decide +kernel
theorem dX3_addTeam_74 : decode cX3_addTeam 74 = .ok (.aload 4, 2) := by decide +kernel
theorem dX3_addTeam_76 : decode cX3_addTeam 76 = .ok (.invokevirtual 53, 3) := by decide +kernel
theorem dX3_addTeam_79 : decode cX3_addTeam 79 = .ok (.pop, 1) := by decide +kernel
theorem dX3_addTeam_80 : decode cX3_addTeam 80 = .ok (.aload_n 0, 1) := by decide +kernel
theorem dX3_addTeam_81 : decode cX3_addTeam 81 = .ok (.invokevirtual 83, 3) := by decide +kernel
theorem dX3_addTeam_84 : decode cX3_addTeam 84 = .ok (.aload 4, 2) := by decide +kernel
theorem dX3_addTeam_86 : decode cX3_addTeam 86 = .ok (.getfield 86, 3) := by decide +kernel
theorem dX3_addTeam_89 : decode cX3_addTeam 89 = .ok (.ireturn, 1) := by decide +kernel
theorem dX3_setWeight_0 : decode cX3_setWeight 0 = .ok (.aload_n 0, 1) := by decide +kernel
theorem dX3_setWeight_1 : decode cX3_setWeight 1 = .ok (.iload_n 1, 1) := by decide +kernel
theorem dX3_setWeight_2 : decode cX3_setWeight 2 = .ok (.invokevirtual 89, 3) := by decide +kernel
theorem dX3_setWeight_5 : decode cX3_setWeight 5 = .ok (.astore_n 3, 1) := by decide +kernel
theorem dX3_setWeight_6 : decode cX3_setWeight 6 = .ok (.iload_n 2, 1) := by decide +kernel
theorem dX3_setWeight_7 : decode cX3_setWeight 7 = .ok (.iconst 1, 1) := by decide +kernel
theorem dX3_setWeight_8 : decode cX3_setWeight 8 = .ok (.bipush 9, 2) := by decide +kernel
theorem dX3_setWeight_10 : decode cX3_setWeight 10 = .ok (.invokestatic 61, 3) := by decide +kernel
theorem dX3_setWeight_13 : decode cX3_setWeight 13 = .ok (.aload_n 3, 1) := by decide +kernel
theorem dX3_setWeight_14 : decode cX3_setWeight 14 = .ok (.getfield 92, 3) := by decide +kernel
theorem dX3_setWeight_17 : decode cX3_setWeight 17 = .ok (.istore 4, 2) := by decide +kernel
theorem dX3_setWeight_19 : decode cX3_setWeight 19 = .ok (.aload_n 3, 1) := by decide +kernel
theorem dX3_setWeight_20 : decode cX3_setWeight 20 = .ok (.iload_n 2, 1) := by decide +kernel
theorem dX3_setWeight_21 : decode cX3_setWeight 21 = .ok (.putfield 92, 3) := by decide +kernel
theorem dX3_setWeight_24 : decode cX3_setWeight 24 = .ok (.aload_n 0, 1) := by decide +kernel
theorem dX3_setWeight_25 : decode cX3_setWeight 25 = .ok (.invokevirtual 83, 3) := by decide +kernel
theorem dX3_setWeight_28 : decode cX3_setWeight 28 = .ok (.iload 4, 2) := by decide +kernel
theorem dX3_setWeight_30 : decode cX3_setWeight 30 = .ok (.ireturn, 1) := by decide +kernel
theorem dX3_setLimit_0 : decode cX3_setLimit 0 = .ok (.aload_n 0, 1) := by decide +kernel
theorem dX3_setLimit_1 : decode cX3_setLimit 1 = .ok (.iload_n 1, 1) := by decide +kernel
theorem dX3_setLimit_2 : decode cX3_setLimit 2 = .ok (.invokevirtual 89, 3) := by decide +kernel
theorem dX3_setLimit_5 : decode cX3_setLimit 5 = .ok (.astore_n 3, 1) := by decide +kernel
theorem dX3_setLimit_6 : decode cX3_setLimit 6 = .ok (.iload_n 2, 1) := by decide +kernel
theorem dX3_setLimit_7 : decode cX3_setLimit 7 = .ok (.iconst 0, 1) := by decide +kernel
theorem dX3_setLimit_8 : decode cX3_setLimit 8 = .ok (.sipush 500, 3) := by decide +kernel
theorem dX3_setLimit_11 : decode cX3_setLimit 11 = .ok (.invokestatic 61, 3) := by decide +kernel
theorem dX3_setLimit_14 : decode cX3_setLimit 14 = .ok (.aload_n 3, 1) := by decide +kernel
theorem dX3_setLimit_15 : decode cX3_setLimit 15 = .ok (.getfield 95, 3) := by decide +kernel
theorem dX3_setLimit_18 : decode cX3_setLimit 18 = .ok (.istore 4, 2) := by decide +kernel
theorem dX3_setLimit_20 : decode cX3_setLimit 20 = .ok (.aload_n 3, 1) := by decide +kernel
theorem dX3_setLimit_21 : decode cX3_setLimit 21 = .ok (.iload_n 2, 1) := by decide +kernel
theorem dX3_setLimit_22 : decode cX3_setLimit 22 = .ok (.putfield 95, 3) := by decide +kernel
theorem dX3_setLimit_25 : decode cX3_setLimit 25 = .ok (.aload_n 0, 1) := by decide +kernel
theorem dX3_setLimit_26 : decode cX3_setLimit 26 = .ok (.invokevirtual 83, 3) := by decide +kernel
theorem dX3_setLimit_29 : decode cX3_setLimit 29 = .ok (.iload 4, 2) := by decide +kernel
theorem dX3_setLimit_31 : decode cX3_setLimit 31 = .ok (.ireturn, 1) := by decide +kernel
theorem dX3_setCapacity_0 : decode cX3_setCapacity 0 = .ok (.iload_n 1, 1) := by decide +kernel
theorem dX3_setCapacity_1 : decode cX3_setCapacity 1 = .ok (.iconst 0, 1) := by decide +kernel
theorem dX3_setCapacity_2 : decode cX3_setCapacity 2 = .ok (.sipush 200, 3) := by decide +kernel
theorem dX3_setCapacity_5 : decode cX3_setCapacity 5 = .ok (.invokestatic 61, 3) := by decide +kernel
theorem dX3_setCapacity_8 : decode cX3_setCapacity 8 = .ok (.iload_n 1, 1) := by decide +kernel
theorem dX3_setCapacity_9 : decode cX3_setCapacity 9 = .ok (.aload_n 0, 1) := by decide +kernel
theorem dX3_setCapacity_10 : decode cX3_setCapacity 10 = .ok (.getfield 21, 3) := by decide +kernel
theorem dX3_setCapacity_13 : decode cX3_setCapacity 13 = .ok (.getfield 98, 3) := by decide +kernel
theorem dX3_setCapacity_16 : decode cX3_setCapacity 16 = .ok (.if_icmp .ge 13, 3) := by decide +kernel
theorem dX3_setCapacity_19 : decode cX3_setCapacity 19 = .ok (.new 73, 3) := by decide +kernel
theorem dX3_setCapacity_22 : decode cX3_setCapacity 22 = .ok (.dup, 1) := by decide +kernel
theorem dX3_setCapacity_23 : decode cX3_setCapacity 23 = .ok (.ldc 101, 2) := by decide +kernel
theorem dX3_setCapacity_25 : decode cX3_setCapacity 25 = .ok (.invokespecial 77, 3) := by decide +kernel
theorem dX3_setCapacity_28 : decode cX3_setCapacity 28 = .ok (.athrow, 1) := by decide +kernel
theorem dX3_setCapacity_29 : decode cX3_setCapacity 29 = .ok (.aload_n 0, 1) := by decide +kernel
theorem dX3_setCapacity_30 : decode cX3_setCapacity 30 = .ok (.getfield 40, 3) := by decide +kernel
theorem dX3_setCapacity_33 : decode cX3_setCapacity 33 = .ok (.istore_n 2, 1) := by decide +kernel
theorem dX3_setCapacity_34 : decode cX3_setCapacity 34 = .ok (.aload_n 0, 1) := by decide +kernel
theorem dX3_setCapacity_35 : decode cX3_setCapacity 35 = .ok (.iload_n 1, 1) := by decide +kernel
theorem dX3_setCapacity_36 : decode cX3_setCapacity 36 = .ok (.putfield 40, 3) := by decide +kernel
theorem dX3_setCapacity_39 : decode cX3_setCapacity 39 = .ok (.aload_n 0, 1) := by decide +kernel
theorem dX3_setCapacity_40 : decode cX3_setCapacity 40 = .ok (.invokevirtual 83, 3) := by decide +kernel
theorem dX3_setCapacity_43 : decode cX3_setCapacity 43 = .ok (.iload_n 2, 1) := by decide +kernel
theorem dX3_setCapacity_44 : decode cX3_setCapacity 44 = .ok (.ireturn, 1) := by decide +kernel
theorem dX3_setHalfTime_0 : decode cX3_setHalfTime 0 = .ok (.iload_n 1, 1) := by decide +kernel
theorem dX3_setHalfTime_1 : decode cX3_setHalfTime 1 = .ok (.iconst 1, 1) := by decide +kernel
theorem dX3_setHalfTime_2 : decode cX3_setHalfTime 2 = .ok (.bipush 100, 2) := by decide +kernel
theorem dX3_setHalfTime_4 : decode cX3_setHalfTime 4 = .ok (.invokestatic 61, 3) := by decide +kernel
theorem dX3_setHalfTime_7 : decode cX3_setHalfTime 7 = .ok (.aload_n 0, 1) := by decide +kernel
theorem dX3_setHalfTime_8 : decode cX3_setHalfTime 8 = .ok (.getfield 44, 3) := by decide +kernel
theorem dX3_setHalfTime_11 : decode cX3_setHalfTime 11 = .ok (.istore_n 2, 1) := by decide +kernel
theorem dX3_setHalfTime_12 : decode cX3_setHalfTime 12 = .ok (.aload_n 0, 1) := by decide +kernel
theorem dX3_setHalfTime_13 : decode cX3_setHalfTime 13 = .ok (.iload_n 1, 1) := by decide +kernel
theorem dX3_setHalfTime_14 : decode cX3_setHalfTime 14 = .ok (.putfield 44, 3) := by decide +kernel
theorem dX3_setHalfTime_17 : decode cX3_setHalfTime 17 = .ok (.aload_n 0, 1) := by decide +kernel
theorem dX3_setHalfTime_18 : decode cX3_setHalfTime 18 = .ok (.invokevirtual 83, 3) := by decide +kernel
theorem dX3_setHalfTime_21 : decode cX3_setHalfTime 21 = .ok (.iload_n 2, 1) := by decide +kernel
theorem dX3_setHalfTime_22 : decode cX3_setHalfTime 22 = .ok (.ireturn, 1) := by decide +kernel
theorem dX3_teams_0 : decode cX3_teams 0 = .ok (.aload_n 0, 1) := by decide +kernel
theorem dX3_teams_1 : decode cX3_teams 1 = .ok (.getfield 10, 3) := by decide +kernel
theorem dX3_teams_4 : decode cX3_teams 4 = .ok (.invokevirtual 65, 3) := by decide +kernel
theorem dX3_teams_7 : decode cX3_teams 7 = .ok (.ireturn, 1) := by decide +kernel
theorem dX3_parentOf_0 : decode cX3_parentOf 0 = .ok (.aload_n 0, 1) := by decide +kernel
theorem dX3_parentOf_1 : decode cX3_parentOf 1 = .ok (.iload_n 1, 1) := by decide +kernel
theorem dX3_parentOf_2 : decode cX3_parentOf 2 = .ok (.invokevirtual 89, 3) := by decide +kernel
theorem dX3_parentOf_5 : decode cX3_parentOf 5 = .ok (.getfield 103, 3) := by decide +kernel
theorem dX3_parentOf_8 : decode cX3_parentOf 8 = .ok (.astore_n 2, 1) := by decide +kernel
theorem dX3_parentOf_9 : decode cX3_parentOf 9 = .ok (.aload_n 2, 1) := by decide +kernel
theorem dX3_parentOf_10 : decode cX3_parentOf 10 = .ok (.ifnonnull 7, 3) := by decide +kernel
theorem dX3_parentOf_13 : decode cX3_parentOf 13 = .ok (.iconst 0, 1) := by decide +kernel
theorem dX3_parentOf_14 : decode cX3_parentOf 14 = .ok (.goto 7, 3) := by decide +kernel
theorem dX3_parentOf_17 : decode cX3_parentOf 17 = .ok (.aload_n 2, 1) := by decide +kernel
theorem dX3_parentOf_18 : decode cX3_parentOf 18 = .ok (.getfield 86, 3) := by decide +kernel
theorem dX3_parentOf_21 : decode cX3_parentOf 21 = .ok (.ireturn, 1) := by decide +kernel
theorem dX3_children_0 : decode cX3_children 0 = .ok (.aload_n 0, 1) := by decide +kernel
theorem dX3_children_1 : decode cX3_children 1 = .ok (.iload_n 1, 1) := by decide +kernel
theorem dX3_children_2 : decode cX3_children 2 = .ok (.invokevirtual 57, 3) := by decide +kernel
theorem dX3_children_5 : decode cX3_children 5 = .ok (.getfield 80, 3) := by decide +kernel
theorem dX3_children_8 : decode cX3_children 8 = .ok (.invokevirtual 65, 3) := by decide +kernel
theorem dX3_children_11 : decode cX3_children 11 = .ok (.ireturn, 1) := by decide +kernel
theorem dX3_submit_0 : decode cX3_submit 0 = .ok (.aload_n 0, 1) := by decide +kernel
theorem dX3_submit_1 : decode cX3_submit 1 = .ok (.iload_n 1, 1) := by decide +kernel
theorem dX3_submit_2 : decode cX3_submit 2 = .ok (.invokevirtual 57, 3) := by decide +kernel
theorem dX3_submit_5 : decode cX3_submit 5 = .ok (.astore 4, 2) := by decide +kernel
theorem dX3_submit_7 : decode cX3_submit 7 = .ok (.iload_n 2, 1) := by decide +kernel
theorem dX3_submit_8 : decode cX3_submit 8 = .ok (.iconst 1, 1) := by decide +kernel
theorem dX3_submit_9 : decode cX3_submit 9 = .ok (.bipush 60, 2) := by decide +kernel
theorem dX3_submit_11 : decode cX3_submit 11 = .ok (.invokestatic 61, 3) := by decide +kernel
theorem dX3_submit_14 : decode cX3_submit 14 = .ok (.iload_n 3, 1) := by decide +kernel
theorem dX3_submit_15 : decode cX3_submit 15 = .ok (.iconst 1, 1) := by decide +kernel
theorem dX3_submit_16 : decode cX3_submit 16 = .ok (.bipush 50, 2) := by decide +kernel
theorem dX3_submit_18 : decode cX3_submit 18 = .ok (.invokestatic 61, 3) := by decide +kernel
theorem dX3_submit_21 : decode cX3_submit 21 = .ok (.aload 4, 2) := by decide +kernel
theorem dX3_submit_23 : decode cX3_submit 23 = .ok (.invokestatic 106, 3) := by decide +kernel
theorem dX3_submit_26 : decode cX3_submit 26 = .ok (.aload_n 0, 1) := by decide +kernel
theorem dX3_submit_27 : decode cX3_submit 27 = .ok (.getfield 28, 3) := by decide +kernel
theorem dX3_submit_30 : decode cX3_submit 30 = .ok (.invokevirtual 65, 3) := by decide +kernel
theorem dX3_submit_33 : decode cX3_submit 33 = .ok (.bipush 40, 2) := by decide +kernel
theorem dX3_submit_35 : decode cX3_submit 35 = .ok (.if_icmp .ge 16, 3) := by decide +kernel
theorem dX3_submit_38 : decode cX3_submit 38 = .ok (.aload_n 0, 1) := by decide +kernel
theorem dX3_submit_39 : decode cX3_submit 39 = .ok (.getfield 25, 3) := by decide +kernel
theorem dX3_submit_42 : decode cX3_submit 42 = .ok (.invokevirtual 65, 3) := by decide +kernel
theorem dX3_submit_45 : decode cX3_submit 45 = .ok (.sipush 512, 3) := by decide +kernel
theorem dX3_submit_48 : decode cX3_submit 48 = .ok (.if_icmp .lt 13, 3) := by decide +kernel
theorem dX3_submit_51 : decode cX3_submit 51 = .ok (.new 73, 3) := by decide +kernel
theorem dX3_submit_54 : decode cX3_submit 54 = .ok (.dup, 1) := by decide +kernel
theorem dX3_submit_55 : decode cX3_submit 55 = .ok (.ldc 110, 2) := by decide +kernel
theorem dX3_submit_57 : decode cX3_submit 57 = .ok (.invokespecial 77, 3) := by decide +kernel
theorem dX3_submit_60 : decode cX3_submit 60 = .ok (.athrow, 1) := by decide +kernel
theorem dX3_submit_61 : decode cX3_submit 61 = .ok (.new 112, 3) := by decide +kernel
theorem dX3_submit_64 : decode cX3_submit 64 = .ok (.dup, 1) := by decide +kernel
theorem dX3_submit_65 : decode cX3_submit 65 = .ok (.aload_n 0, 1) := by decide +kernel
theorem dX3_submit_66 : decode cX3_submit 66 = .ok (.getfield 25, 3) := by decide +kernel
theorem dX3_submit_69 : decode cX3_submit 69 = .ok (.invokevirtual 65, 3) := by decide +kernel
theorem dX3_submit_72 : decode cX3_submit 72 = .ok (.aload 4, 2) := by decide +kernel
theorem dX3_submit_74 : decode cX3_submit 74 = .ok (.iload_n 2, 1) := by decide +kernel
theorem dX3_submit_75 : decode cX3_submit 75 = .ok (.iload_n 3, 1) := by decide +kernel
theorem dX3_submit_76 : decode cX3_submit 76 = .ok (.invokespecial 114, 3) := by decide +kernel
theorem dX3_submit_79 : decode cX3_submit 79 = .ok (.astore 5, 2) := by decide +kernel
theorem dX3_submit_81 : decode cX3_submit 81 = .ok (.aload_n 0, 1) := by decide +kernel
theorem dX3_submit_82 : decode cX3_submit 82 = .ok (.getfield 25, 3) := by decide +kernel
theorem dX3_submit_85 : decode cX3_submit 85 = .ok (.aload 5, 2) := by decide +kernel
theorem dX3_submit_87 : decode cX3_submit 87 = .ok (.invokevirtual 53, 3) := by decide +kernel
theorem dX3_submit_90 : decode cX3_submit 90 = .ok (.pop, 1) := by decide +kernel
theorem dX3_submit_91 : decode cX3_submit 91 = .ok (.aload_n 0, 1) := by decide +kernel
theorem dX3_submit_92 : decode cX3_submit 92 = .ok (.getfield 28, 3) := by decide +kernel
theorem dX3_submit_95 : decode cX3_submit 95 = .ok (.aload 5, 2) := by decide +kernel
theorem dX3_submit_97 : decode cX3_submit 97 = .ok (.invokevirtual 53, 3) := by decide +kernel
theorem dX3_submit_100 : decode cX3_submit 100 = .ok (.pop, 1) := by decide +kernel
theorem dX3_submit_101 : decode cX3_submit 101 = .ok (.aload 4, 2) := by decide +kernel
theorem dX3_submit_103 : decode cX3_submit 103 = .ok (.iconst 1, 1) := by decide +kernel
theorem dX3_submit_104 : decode cX3_submit 104 = .ok (.putfield 69, 3) := by decide +kernel
theorem dX3_submit_107 : decode cX3_submit 107 = .ok (.aload_n 0, 1) := by decide +kernel
theorem dX3_submit_108 : decode cX3_submit 108 = .ok (.invokevirtual 83, 3) := by decide +kernel
theorem dX3_submit_111 : decode cX3_submit 111 = .ok (.aload 5, 2) := by decide +kernel
theorem dX3_submit_113 : decode cX3_submit 113 = .ok (.getfield 117, 3) := by decide +kernel
theorem dX3_submit_116 : decode cX3_submit 116 = .ok (.ireturn, 1) := by decide +kernel
theorem dX3_cancel_0 : decode cX3_cancel 0 = .ok (.aload_n 0, 1) := by decide +kernel
theorem dX3_cancel_1 : decode cX3_cancel 1 = .ok (.iload_n 1, 1) := by decide +kernel
theorem dX3_cancel_2 : decode cX3_cancel 2 = .ok (.invokevirtual 118, 3) := by decide +kernel
theorem dX3_cancel_5 : decode cX3_cancel 5 = .ok (.astore_n 2, 1) := by decide +kernel
theorem dX3_cancel_6 : decode cX3_cancel 6 = .ok (.iconst 0, 1) := by decide +kernel
theorem dX3_cancel_7 : decode cX3_cancel 7 = .ok (.istore_n 3, 1) := by decide +kernel
theorem dX3_cancel_8 : decode cX3_cancel 8 = .ok (.aload_n 2, 1) := by decide +kernel
theorem dX3_cancel_9 : decode cX3_cancel 9 = .ok (.getfield 122, 3) := by decide +kernel
theorem dX3_cancel_12 : decode cX3_cancel 12 = .ok (.bipush 114, 2) := by decide +kernel
theorem dX3_cancel_14 : decode cX3_cancel 14 = .ok (.if_icmp .ne 12, 3) := by decide +kernel
theorem dX3_cancel_17 : decode cX3_cancel 17 = .ok (.aload_n 2, 1) := by decide +kernel
theorem dX3_cancel_18 : decode cX3_cancel 18 = .ok (.getfield 126, 3) := by decide +kernel
theorem dX3_cancel_21 : decode cX3_cancel 21 = .ok (.istore_n 3, 1) := by decide +kernel
theorem dX3_cancel_22 : decode cX3_cancel 22 = .ok (.aload_n 2, 1) := by decide +kernel
theorem dX3_cancel_23 : decode cX3_cancel 23 = .ok (.invokevirtual 128, 3) := by decide +kernel
theorem dX3_cancel_26 : decode cX3_cancel 26 = .ok (.aload_n 2, 1) := by decide +kernel
theorem dX3_cancel_27 : decode cX3_cancel 27 = .ok (.bipush 99, 2) := by decide +kernel
theorem dX3_cancel_29 : decode cX3_cancel 29 = .ok (.putfield 122, 3) := by decide +kernel
theorem dX3_cancel_32 : decode cX3_cancel 32 = .ok (.aload_n 0, 1) := by decide +kernel
theorem dX3_cancel_33 : decode cX3_cancel 33 = .ok (.invokevirtual 131, 3) := by decide +kernel
theorem dX3_cancel_36 : decode cX3_cancel 36 = .ok (.aload_n 0, 1) := by decide +kernel
theorem dX3_cancel_37 : decode cX3_cancel 37 = .ok (.invokevirtual 83, 3) := by decide +kernel
theorem dX3_cancel_40 : decode cX3_cancel 40 = .ok (.iload_n 3, 1) := by decide +kernel
theorem dX3_cancel_41 : decode cX3_cancel 41 = .ok (.ireturn, 1) := by decide +kernel
theorem dX3_pass_0 : decode cX3_pass 0 = .ok (.iload_n 1, 1) := by decide +kernel
theorem dX3_pass_1 : decode cX3_pass 1 = .ok (.iconst 1, 1) := by decide +kernel
theorem dX3_pass_2 : decode cX3_pass 2 = .ok (.bipush 20, 2) := by decide +kernel
theorem dX3_pass_4 : decode cX3_pass 4 = .ok (.invokestatic 61, 3) := by decide +kernel
theorem dX3_pass_7 : decode cX3_pass 7 = .ok (.iconst 0, 1) := by decide +kernel
theorem dX3_pass_8 : decode cX3_pass 8 = .ok (.istore_n 2, 1) := by decide +kernel
theorem dX3_pass_9 : decode cX3_pass 9 = .ok (.iconst 0, 1) := by decide +kernel
theorem dX3_pass_10 : decode cX3_pass 10 = .ok (.istore_n 3, 1) := by decide +kernel
theorem dX3_pass_11 : decode cX3_pass 11 = .ok (.iload_n 3, 1) := by decide +kernel
theorem dX3_pass_12 : decode cX3_pass 12 = .ok (.iload_n 1, 1) := by decide +kernel
theorem dX3_pass_13 : decode cX3_pass 13 = .ok (.if_icmp .ge 34, 3) := by decide +kernel
theorem dX3_pass_16 : decode cX3_pass 16 = .ok (.aload_n 0, 1) := by decide +kernel
theorem dX3_pass_17 : decode cX3_pass 17 = .ok (.dup, 1) := by decide +kernel
theorem dX3_pass_18 : decode cX3_pass 18 = .ok (.getfield 47, 3) := by decide +kernel
theorem dX3_pass_21 : decode cX3_pass 21 = .ok (.iconst 1, 1) := by decide +kernel
theorem dX3_pass_22 : decode cX3_pass 22 = .ok (.iadd, 1) := by decide +kernel
theorem dX3_pass_23 : decode cX3_pass 23 = .ok (.putfield 47, 3) := by decide +kernel
theorem dX3_pass_26 : decode cX3_pass 26 = .ok (.iload_n 2, 1) := by decide +kernel
theorem dX3_pass_27 : decode cX3_pass 27 = .ok (.aload_n 0, 1) := by decide +kernel
theorem dX3_pass_28 : decode cX3_pass 28 = .ok (.invokevirtual 134, 3) := by decide +kernel
theorem dX3_pass_31 : decode cX3_pass 31 = .ok (.iadd, 1) := by decide +kernel
theorem dX3_pass_32 : decode cX3_pass 32 = .ok (.istore_n 2, 1) := by decide +kernel
theorem dX3_pass_33 : decode cX3_pass 33 = .ok (.aload_n 0, 1) := by decide +kernel
theorem dX3_pass_34 : decode cX3_pass 34 = .ok (.invokevirtual 137, 3) := by decide +kernel
theorem dX3_pass_37 : decode cX3_pass 37 = .ok (.aload_n 0, 1) := by decide +kernel
theorem dX3_pass_38 : decode cX3_pass 38 = .ok (.invokevirtual 83, 3) := by decide +kernel
theorem dX3_pass_41 : decode cX3_pass 41 = .ok (.iinc 3 1, 3) := by decide +kernel
theorem dX3_pass_44 : decode cX3_pass 44 = .ok (.goto (-33), 3) := by decide +kernel
theorem dX3_pass_47 : decode cX3_pass 47 = .ok (.iload_n 2, 1) := by decide +kernel
theorem dX3_pass_48 : decode cX3_pass 48 = .ok (.ireturn, 1) := by decide +kernel
theorem dX3_tick_0 : decode cX3_tick 0 = .ok (.aload_n 0, 1) := by decide +kernel
theorem dX3_tick_1 : decode cX3_tick 1 = .ok (.getfield 47, 3) := by decide +kernel
theorem dX3_tick_4 : decode cX3_tick 4 = .ok (.ireturn, 1) := by decide +kernel
theorem dX3_jobs_0 : decode cX3_jobs 0 = .ok (.aload_n 0, 1) := by decide +kernel
theorem dX3_jobs_1 : decode cX3_jobs 1 = .ok (.getfield 25, 3) := by decide +kernel
theorem dX3_jobs_4 : decode cX3_jobs 4 = .ok (.invokevirtual 65, 3) := by decide +kernel
theorem dX3_jobs_7 : decode cX3_jobs 7 = .ok (.ireturn, 1) := by decide +kernel
theorem dX3_stateOf_0 : decode cX3_stateOf 0 = .ok (.aload_n 0, 1) := by decide +kernel
theorem dX3_stateOf_1 : decode cX3_stateOf 1 = .ok (.iload_n 1, 1) := by decide +kernel
theorem dX3_stateOf_2 : decode cX3_stateOf 2 = .ok (.invokevirtual 140, 3) := by decide +kernel
theorem dX3_stateOf_5 : decode cX3_stateOf 5 = .ok (.getfield 122, 3) := by decide +kernel
theorem dX3_stateOf_8 : decode cX3_stateOf 8 = .ok (.ireturn, 1) := by decide +kernel
theorem dX3_toGo_0 : decode cX3_toGo 0 = .ok (.aload_n 0, 1) := by decide +kernel
theorem dX3_toGo_1 : decode cX3_toGo 1 = .ok (.iload_n 1, 1) := by decide +kernel
theorem dX3_toGo_2 : decode cX3_toGo 2 = .ok (.invokevirtual 118, 3) := by decide +kernel
theorem dX3_toGo_5 : decode cX3_toGo 5 = .ok (.astore_n 2, 1) := by decide +kernel
theorem dX3_toGo_6 : decode cX3_toGo 6 = .ok (.aload_n 2, 1) := by decide +kernel
theorem dX3_toGo_7 : decode cX3_toGo 7 = .ok (.getfield 122, 3) := by decide +kernel
theorem dX3_toGo_10 : decode cX3_toGo 10 = .ok (.bipush 114, 2) := by decide +kernel
theorem dX3_toGo_12 : decode cX3_toGo 12 = .ok (.if_icmp .ne 10, 3) := by decide +kernel
theorem dX3_toGo_15 : decode cX3_toGo 15 = .ok (.aload_n 2, 1) := by decide +kernel
theorem dX3_toGo_16 : decode cX3_toGo 16 = .ok (.getfield 143, 3) := by decide +kernel
theorem dX3_toGo_19 : decode cX3_toGo 19 = .ok (.goto 7, 3) := by decide +kernel
theorem dX3_toGo_22 : decode cX3_toGo 22 = .ok (.aload_n 2, 1) := by decide +kernel
theorem dX3_toGo_23 : decode cX3_toGo 23 = .ok (.getfield 146, 3) := by decide +kernel
theorem dX3_toGo_26 : decode cX3_toGo 26 = .ok (.ireturn, 1) := by decide +kernel
theorem dX3_stops_0 : decode cX3_stops 0 = .ok (.aload_n 0, 1) := by decide +kernel
theorem dX3_stops_1 : decode cX3_stops 1 = .ok (.iload_n 1, 1) := by decide +kernel
theorem dX3_stops_2 : decode cX3_stops 2 = .ok (.invokevirtual 140, 3) := by decide +kernel
theorem dX3_stops_5 : decode cX3_stops 5 = .ok (.getfield 149, 3) := by decide +kernel
theorem dX3_stops_8 : decode cX3_stops 8 = .ok (.ireturn, 1) := by decide +kernel
theorem dX3_firstOf_0 : decode cX3_firstOf 0 = .ok (.aload_n 0, 1) := by decide +kernel
theorem dX3_firstOf_1 : decode cX3_firstOf 1 = .ok (.aload_n 0, 1) := by decide +kernel
theorem dX3_firstOf_2 : decode cX3_firstOf 2 = .ok (.iload_n 1, 1) := by decide +kernel
theorem dX3_firstOf_3 : decode cX3_firstOf 3 = .ok (.invokevirtual 152, 3) := by decide +kernel
theorem dX3_firstOf_6 : decode cX3_firstOf 6 = .ok (.invokevirtual 155, 3) := by decide +kernel
theorem dX3_firstOf_9 : decode cX3_firstOf 9 = .ok (.astore_n 2, 1) := by decide +kernel
theorem dX3_firstOf_10 : decode cX3_firstOf 10 = .ok (.aload_n 2, 1) := by decide +kernel
theorem dX3_firstOf_11 : decode cX3_firstOf 11 = .ok (.ifnonnull 13, 3) := by decide +kernel
theorem dX3_firstOf_14 : decode cX3_firstOf 14 = .ok (.new 159, 3) := by decide +kernel
theorem dX3_firstOf_17 : decode cX3_firstOf 17 = .ok (.dup, 1) := by decide +kernel
theorem dX3_firstOf_18 : decode cX3_firstOf 18 = .ok (.ldc 161, 2) := by decide +kernel
theorem dX3_firstOf_20 : decode cX3_firstOf 20 = .ok (.invokespecial 163, 3) := by decide +kernel
theorem dX3_firstOf_23 : decode cX3_firstOf 23 = .ok (.athrow, 1) := by decide +kernel
theorem dX3_firstOf_24 : decode cX3_firstOf 24 = .ok (.aload_n 2, 1) := by decide +kernel
theorem dX3_firstOf_25 : decode cX3_firstOf 25 = .ok (.getfield 117, 3) := by decide +kernel
theorem dX3_firstOf_28 : decode cX3_firstOf 28 = .ok (.ireturn, 1) := by decide +kernel
theorem dX3_inLine_0 : decode cX3_inLine 0 = .ok (.aload_n 0, 1) := by decide +kernel
theorem dX3_inLine_1 : decode cX3_inLine 1 = .ok (.invokevirtual 164, 3) := by decide +kernel
theorem dX3_inLine_4 : decode cX3_inLine 4 = .ok (.iload_n 1, 1) := by decide +kernel
theorem dX3_inLine_5 : decode cX3_inLine 5 = .ok (.ifCond .lt 14, 3) := by decide +kernel
theorem dX3_inLine_8 : decode cX3_inLine 8 = .ok (.iload_n 1, 1) := by decide +kernel
theorem dX3_inLine_9 : decode cX3_inLine 9 = .ok (.aload_n 0, 1) := by decide +kernel
theorem dX3_inLine_10 : decode cX3_inLine 10 = .ok (.getfield 34, 3) := by decide +kernel
theorem dX3_inLine_13 : decode cX3_inLine 13 = .ok (.invokevirtual 65, 3) := by decide +kernel
theorem dX3_inLine_16 : decode cX3_inLine 16 = .ok (.if_icmp .lt 13, 3) := by decide +kernel
theorem dX3_inLine_19 : decode cX3_inLine 19 = .ok (.new 159, 3) := by decide +kernel
theorem dX3_inLine_22 : decode cX3_inLine 22 = .ok (.dup, 1) := by decide +kernel
theorem dX3_inLine_23 : decode cX3_inLine 23 = .ok (.ldc 167, 2) := by decide +kernel
theorem dX3_inLine_25 : decode cX3_inLine 25 = .ok (.invokespecial 163, 3) := by decide +kernel
theorem dX3_inLine_28 : decode cX3_inLine 28 = .ok (.athrow, 1) := by decide +kernel
theorem dX3_inLine_29 : decode cX3_inLine 29 = .ok (.aload_n 0, 1) := by decide +kernel
theorem dX3_inLine_30 : decode cX3_inLine 30 = .ok (.getfield 34, 3) := by decide +kernel
theorem dX3_inLine_33 : decode cX3_inLine 33 = .ok (.iload_n 1, 1) := by decide +kernel
theorem dX3_inLine_34 : decode cX3_inLine 34 = .ok (.invokevirtual 169, 3) := by decide +kernel
theorem dX3_inLine_37 : decode cX3_inLine 37 = .ok (.checkcast 112, 3) := by decide +kernel
theorem dX3_inLine_40 : decode cX3_inLine 40 = .ok (.getfield 173, 3) := by decide +kernel
theorem dX3_inLine_43 : decode cX3_inLine 43 = .ok (.getfield 86, 3) := by decide +kernel
theorem dX3_inLine_46 : decode cX3_inLine 46 = .ok (.ireturn, 1) := by decide +kernel
theorem dX3_reserve_0 : decode cX3_reserve 0 = .ok (.aload_n 0, 1) := by decide +kernel
theorem dX3_reserve_1 : decode cX3_reserve 1 = .ok (.iload_n 1, 1) := by decide +kernel
theorem dX3_reserve_2 : decode cX3_reserve 2 = .ok (.invokevirtual 57, 3) := by decide +kernel
theorem dX3_reserve_5 : decode cX3_reserve 5 = .ok (.astore 5, 2) := by decide +kernel
theorem dX3_reserve_7 : decode cX3_reserve 7 = .ok (.iload_n 2, 1) := by decide +kernel
theorem dX3_reserve_8 : decode cX3_reserve 8 = .ok (.iconst 1, 1) := by decide +kernel
theorem dX3_reserve_9 : decode cX3_reserve 9 = .ok (.bipush 60, 2) := by decide +kernel
theorem dX3_reserve_11 : decode cX3_reserve 11 = .ok (.invokestatic 61, 3) := by decide +kernel
theorem dX3_reserve_14 : decode cX3_reserve 14 = .ok (.iload_n 3, 1) := by decide +kernel
theorem dX3_reserve_15 : decode cX3_reserve 15 = .ok (.iconst 0, 1) := by decide +kernel
theorem dX3_reserve_16 : decode cX3_reserve 16 = .ok (.sipush 9999, 3) := by decide +kernel
theorem dX3_reserve_19 : decode cX3_reserve 19 = .ok (.invokestatic 61, 3) := by decide +kernel
theorem dX3_reserve_22 : decode cX3_reserve 22 = .ok (.iload 4, 2) := by decide +kernel
theorem dX3_reserve_24 : decode cX3_reserve 24 = .ok (.iload_n 3, 1) := by decide +kernel
theorem dX3_reserve_25 : decode cX3_reserve 25 = .ok (.iconst 1, 1) := by decide +kernel
theorem dX3_reserve_26 : decode cX3_reserve 26 = .ok (.iadd, 1) := by decide +kernel
theorem dX3_reserve_27 : decode cX3_reserve 27 = .ok (.sipush 9999, 3) := by decide +kernel
theorem dX3_reserve_30 : decode cX3_reserve 30 = .ok (.invokestatic 61, 3) := by decide +kernel
theorem dX3_reserve_33 : decode cX3_reserve 33 = .ok (.aload_n 0, 1) := by decide +kernel
theorem dX3_reserve_34 : decode cX3_reserve 34 = .ok (.iload_n 1, 1) := by decide +kernel
theorem dX3_reserve_35 : decode cX3_reserve 35 = .ok (.iload_n 3, 1) := by decide +kernel
theorem dX3_reserve_36 : decode cX3_reserve 36 = .ok (.iload 4, 2) := by decide +kernel
theorem dX3_reserve_38 : decode cX3_reserve 38 = .ok (.invokevirtual 176, 3) := by decide +kernel
theorem dX3_reserve_41 : decode cX3_reserve 41 = .ok (.astore 6, 2) := by decide +kernel
theorem dX3_reserve_43 : decode cX3_reserve 43 = .ok (.aload 6, 2) := by decide +kernel
theorem dX3_reserve_45 : decode cX3_reserve 45 = .ok (.ifnull 17, 3) := by decide +kernel
theorem dX3_reserve_48 : decode cX3_reserve 48 = .ok (.aload 6, 2) := by decide +kernel
theorem dX3_reserve_50 : decode cX3_reserve 50 = .ok (.getfield 180, 3) := by decide +kernel
theorem dX3_reserve_53 : decode cX3_reserve 53 = .ok (.iload_n 2, 1) := by decide +kernel
theorem dX3_reserve_54 : decode cX3_reserve 54 = .ok (.iadd, 1) := by decide +kernel
theorem dX3_reserve_55 : decode cX3_reserve 55 = .ok (.iconst 1, 1) := by decide +kernel
theorem dX3_reserve_56 : decode cX3_reserve 56 = .ok (.sipush 200, 3) := by decide +kernel
theorem dX3_reserve_59 : decode cX3_reserve 59 = .ok (.invokestatic 61, 3) := by decide +kernel
theorem dX3_reserve_62 : decode cX3_reserve 62 = .ok (.aload 5, 2) := by decide +kernel
theorem dX3_reserve_64 : decode cX3_reserve 64 = .ok (.invokestatic 106, 3) := by decide +kernel
theorem dX3_reserve_67 : decode cX3_reserve 67 = .ok (.aload 6, 2) := by decide +kernel
theorem dX3_reserve_69 : decode cX3_reserve 69 = .ok (.ifnonnull 49, 3) := by decide +kernel
theorem dX3_reserve_72 : decode cX3_reserve 72 = .ok (.aload_n 0, 1) := by decide +kernel
theorem dX3_reserve_73 : decode cX3_reserve 73 = .ok (.getfield 31, 3) := by decide +kernel
theorem dX3_reserve_76 : decode cX3_reserve 76 = .ok (.invokevirtual 65, 3) := by decide +kernel
theorem dX3_reserve_79 : decode cX3_reserve 79 = .ok (.bipush 8, 2) := by decide +kernel
theorem dX3_reserve_81 : decode cX3_reserve 81 = .ok (.if_icmp .lt 13, 3) := by decide +kernel
theorem dX3_reserve_84 : decode cX3_reserve 84 = .ok (.new 73, 3) := by decide +kernel
theorem dX3_reserve_87 : decode cX3_reserve 87 = .ok (.dup, 1) := by decide +kernel
theorem dX3_reserve_88 : decode cX3_reserve 88 = .ok (.ldc 185, 2) := by decide +kernel
theorem dX3_reserve_90 : decode cX3_reserve 90 = .ok (.invokespecial 77, 3) := by decide +kernel
theorem dX3_reserve_93 : decode cX3_reserve 93 = .ok (.athrow, 1) := by decide +kernel
theorem dX3_reserve_94 : decode cX3_reserve 94 = .ok (.new 181, 3) := by decide +kernel
theorem dX3_reserve_97 : decode cX3_reserve 97 = .ok (.dup, 1) := by decide +kernel
theorem dX3_reserve_98 : decode cX3_reserve 98 = .ok (.aload 5, 2) := by decide +kernel
theorem dX3_reserve_100 : decode cX3_reserve 100 = .ok (.iload_n 3, 1) := by decide +kernel
theorem dX3_reserve_101 : decode cX3_reserve 101 = .ok (.iload 4, 2) := by decide +kernel
theorem dX3_reserve_103 : decode cX3_reserve 103 = .ok (.invokespecial 187, 3) := by decide +kernel
theorem dX3_reserve_106 : decode cX3_reserve 106 = .ok (.astore 6, 2) := by decide +kernel
theorem dX3_reserve_108 : decode cX3_reserve 108 = .ok (.aload_n 0, 1) := by decide +kernel
theorem dX3_reserve_109 : decode cX3_reserve 109 = .ok (.getfield 31, 3) := by decide +kernel
theorem dX3_reserve_112 : decode cX3_reserve 112 = .ok (.aload 6, 2) := by decide +kernel
theorem dX3_reserve_114 : decode cX3_reserve 114 = .ok (.invokevirtual 53, 3) := by decide +kernel
theorem dX3_reserve_117 : decode cX3_reserve 117 = .ok (.pop, 1) := by decide +kernel
theorem dX3_reserve_118 : decode cX3_reserve 118 = .ok (.aload 6, 2) := by decide +kernel
theorem dX3_reserve_120 : decode cX3_reserve 120 = .ok (.dup, 1) := by decide +kernel
theorem dX3_reserve_121 : decode cX3_reserve 121 = .ok (.getfield 180, 3) := by decide +kernel
theorem dX3_reserve_124 : decode cX3_reserve 124 = .ok (.iload_n 2, 1) := by decide +kernel
theorem dX3_reserve_125 : decode cX3_reserve 125 = .ok (.iadd, 1) := by decide +kernel
theorem dX3_reserve_126 : decode cX3_reserve 126 = .ok (.putfield 180, 3) := by decide +kernel
theorem dX3_reserve_129 : decode cX3_reserve 129 = .ok (.aload 5, 2) := by decide +kernel
theorem dX3_reserve_131 : decode cX3_reserve 131 = .ok (.iconst 1, 1) := by decide +kernel
theorem dX3_reserve_132 : decode cX3_reserve 132 = .ok (.putfield 69, 3) := by decide +kernel
theorem dX3_reserve_135 : decode cX3_reserve 135 = .ok (.aload_n 0, 1) := by decide +kernel
theorem dX3_reserve_136 : decode cX3_reserve 136 = .ok (.invokevirtual 83, 3) := by decide +kernel
theorem dX3_reserve_139 : decode cX3_reserve 139 = .ok (.aload 6, 2) := by decide +kernel
theorem dX3_reserve_141 : decode cX3_reserve 141 = .ok (.getfield 180, 3) := by decide +kernel
theorem dX3_reserve_144 : decode cX3_reserve 144 = .ok (.ireturn, 1) := by decide +kernel
theorem dX3_drop_0 : decode cX3_drop 0 = .ok (.aload_n 0, 1) := by decide +kernel
theorem dX3_drop_1 : decode cX3_drop 1 = .ok (.iload_n 1, 1) := by decide +kernel
theorem dX3_drop_2 : decode cX3_drop 2 = .ok (.iload_n 2, 1) := by decide +kernel
theorem dX3_drop_3 : decode cX3_drop 3 = .ok (.iload_n 3, 1) := by decide +kernel
theorem dX3_drop_4 : decode cX3_drop 4 = .ok (.invokevirtual 176, 3) := by decide +kernel
theorem dX3_drop_7 : decode cX3_drop 7 = .ok (.astore 4, 2) := by decide +kernel
theorem dX3_drop_9 : decode cX3_drop 9 = .ok (.aload 4, 2) := by decide +kernel
theorem dX3_drop_11 : decode cX3_drop 11 = .ok (.ifnonnull 13, 3) := by decide +kernel
theorem dX3_drop_14 : decode cX3_drop 14 = .ok (.new 159, 3) := by decide +kernel
theorem dX3_drop_17 : decode cX3_drop 17 = .ok (.dup, 1) := by decide +kernel
theorem dX3_drop_18 : decode cX3_drop 18 = .ok (.ldc 190, 2) := by decide +kernel
theorem dX3_drop_20 : decode cX3_drop 20 = .ok (.invokespecial 163, 3) := by decide +kernel
theorem dX3_drop_23 : decode cX3_drop 23 = .ok (.athrow, 1) := by decide +kernel
theorem dX3_drop_24 : decode cX3_drop 24 = .ok (.aload_n 0, 1) := by decide +kernel
theorem dX3_drop_25 : decode cX3_drop 25 = .ok (.aload 4, 2) := by decide +kernel
theorem dX3_drop_27 : decode cX3_drop 27 = .ok (.invokevirtual 192, 3) := by decide +kernel
theorem dX3_drop_30 : decode cX3_drop 30 = .ok (.aload_n 0, 1) := by decide +kernel
theorem dX3_drop_31 : decode cX3_drop 31 = .ok (.invokevirtual 83, 3) := by decide +kernel
theorem dX3_drop_34 : decode cX3_drop 34 = .ok (.aload 4, 2) := by decide +kernel
theorem dX3_drop_36 : decode cX3_drop 36 = .ok (.getfield 180, 3) := by decide +kernel
theorem dX3_drop_39 : decode cX3_drop 39 = .ok (.ireturn, 1) := by decide +kernel
theorem dX3_reserved_0 : decode cX3_reserved 0 = .ok (.aload_n 0, 1) := by decide +kernel
theorem dX3_reserved_1 : decode cX3_reserved 1 = .ok (.iload_n 1, 1) := by decide +kernel
theorem dX3_reserved_2 : decode cX3_reserved 2 = .ok (.invokevirtual 152, 3) := by decide +kernel
theorem dX3_reserved_5 : decode cX3_reserved 5 = .ok (.astore_n 2, 1) := by decide +kernel
theorem dX3_reserved_6 : decode cX3_reserved 6 = .ok (.aload_n 0, 1) := by decide +kernel
theorem dX3_reserved_7 : decode cX3_reserved 7 = .ok (.invokevirtual 196, 3) := by decide +kernel
theorem dX3_reserved_10 : decode cX3_reserved 10 = .ok (.aload_n 2, 1) := by decide +kernel
theorem dX3_reserved_11 : decode cX3_reserved 11 = .ok (.getfield 199, 3) := by decide +kernel
theorem dX3_reserved_14 : decode cX3_reserved 14 = .ok (.ireturn, 1) := by decide +kernel
theorem dX3_running_0 : decode cX3_running 0 = .ok (.aload_n 0, 1) := by decide +kernel
theorem dX3_running_1 : decode cX3_running 1 = .ok (.iload_n 1, 1) := by decide +kernel
theorem dX3_running_2 : decode cX3_running 2 = .ok (.invokevirtual 57, 3) := by decide +kernel
theorem dX3_running_5 : decode cX3_running 5 = .ok (.getfield 98, 3) := by decide +kernel
theorem dX3_running_8 : decode cX3_running 8 = .ok (.ireturn, 1) := by decide +kernel
theorem dX3_demand_0 : decode cX3_demand 0 = .ok (.aload_n 0, 1) := by decide +kernel
theorem dX3_demand_1 : decode cX3_demand 1 = .ok (.iload_n 1, 1) := by decide +kernel
theorem dX3_demand_2 : decode cX3_demand 2 = .ok (.invokevirtual 57, 3) := by decide +kernel
theorem dX3_demand_5 : decode cX3_demand 5 = .ok (.astore_n 2, 1) := by decide +kernel
theorem dX3_demand_6 : decode cX3_demand 6 = .ok (.aload_n 0, 1) := by decide +kernel
theorem dX3_demand_7 : decode cX3_demand 7 = .ok (.invokevirtual 202, 3) := by decide +kernel
theorem dX3_demand_10 : decode cX3_demand 10 = .ok (.aload_n 2, 1) := by decide +kernel
theorem dX3_demand_11 : decode cX3_demand 11 = .ok (.getfield 205, 3) := by decide +kernel
theorem dX3_demand_14 : decode cX3_demand 14 = .ok (.ireturn, 1) := by decide +kernel
theorem dX3_share_0 : decode cX3_share 0 = .ok (.aload_n 0, 1) := by decide +kernel
theorem dX3_share_1 : decode cX3_share 1 = .ok (.iload_n 1, 1) := by decide +kernel
theorem dX3_share_2 : decode cX3_share 2 = .ok (.invokevirtual 57, 3) := by decide +kernel
theorem dX3_share_5 : decode cX3_share 5 = .ok (.astore_n 2, 1) := by decide +kernel
theorem dX3_share_6 : decode cX3_share 6 = .ok (.aload_n 0, 1) := by decide +kernel
theorem dX3_share_7 : decode cX3_share 7 = .ok (.invokevirtual 202, 3) := by decide +kernel
theorem dX3_share_10 : decode cX3_share 10 = .ok (.aload_n 0, 1) := by decide +kernel
theorem dX3_share_11 : decode cX3_share 11 = .ok (.invokevirtual 208, 3) := by decide +kernel
theorem dX3_share_14 : decode cX3_share 14 = .ok (.aload_n 2, 1) := by decide +kernel
theorem dX3_share_15 : decode cX3_share 15 = .ok (.getfield 211, 3) := by decide +kernel
theorem dX3_share_18 : decode cX3_share 18 = .ok (.ireturn, 1) := by decide +kernel
theorem dX3_shareByLevels_0 : decode cX3_shareByLevels 0 = .ok (.aload_n 0, 1) := by decide +kernel
theorem dX3_shareByLevels_1 : decode cX3_shareByLevels 1 = .ok (.iload_n 1, 1) := by decide +kernel
theorem dX3_shareByLevels_2 : decode cX3_shareByLevels 2 = .ok (.invokevirtual 57, 3) := by decide +kernel
theorem dX3_shareByLevels_5 : decode cX3_shareByLevels 5 = .ok (.astore_n 2, 1) := by decide +kernel
theorem dX3_shareByLevels_6 : decode cX3_shareByLevels 6 = .ok (.aload_n 0, 1) := by decide +kernel
theorem dX3_shareByLevels_7 : decode cX3_shareByLevels 7 = .ok (.invokevirtual 202, 3) := by decide +kernel
theorem dX3_shareByLevels_10 : decode cX3_shareByLevels 10 = .ok (.aload_n 0, 1) := by decide +kernel
theorem dX3_shareByLevels_11 : decode cX3_shareByLevels 11 = .ok (.invokevirtual 214, 3) := by decide +kernel
theorem dX3_shareByLevels_14 : decode cX3_shareByLevels 14 = .ok (.aload_n 2, 1) := by decide +kernel
theorem dX3_shareByLevels_15 : decode cX3_shareByLevels 15 = .ok (.getfield 217, 3) := by decide +kernel
theorem dX3_shareByLevels_18 : decode cX3_shareByLevels 18 = .ok (.ireturn, 1) := by decide +kernel
theorem dX3_due_0 : decode cX3_due 0 = .ok (.aload_n 0, 1) := by decide +kernel
theorem dX3_due_1 : decode cX3_due 1 = .ok (.iload_n 1, 1) := by decide +kernel
theorem dX3_due_2 : decode cX3_due 2 = .ok (.invokevirtual 152, 3) := by decide +kernel
theorem dX3_due_5 : decode cX3_due 5 = .ok (.astore_n 2, 1) := by decide +kernel
theorem dX3_due_6 : decode cX3_due 6 = .ok (.aload_n 0, 1) := by decide +kernel
theorem dX3_due_7 : decode cX3_due 7 = .ok (.invokevirtual 220, 3) := by decide +kernel
theorem dX3_due_10 : decode cX3_due 10 = .ok (.aload_n 2, 1) := by decide +kernel
theorem dX3_due_11 : decode cX3_due 11 = .ok (.getfield 223, 3) := by decide +kernel
theorem dX3_due_14 : decode cX3_due 14 = .ok (.ireturn, 1) := by decide +kernel
theorem dX3_freeFor_0 : decode cX3_freeFor 0 = .ok (.aload_n 0, 1) := by decide +kernel
theorem dX3_freeFor_1 : decode cX3_freeFor 1 = .ok (.iload_n 1, 1) := by decide +kernel
theorem dX3_freeFor_2 : decode cX3_freeFor 2 = .ok (.invokevirtual 152, 3) := by decide +kernel
theorem dX3_freeFor_5 : decode cX3_freeFor 5 = .ok (.astore_n 2, 1) := by decide +kernel
theorem dX3_freeFor_6 : decode cX3_freeFor 6 = .ok (.aload_n 0, 1) := by decide +kernel
theorem dX3_freeFor_7 : decode cX3_freeFor 7 = .ok (.invokevirtual 196, 3) := by decide +kernel
theorem dX3_freeFor_10 : decode cX3_freeFor 10 = .ok (.aload_n 0, 1) := by decide +kernel
theorem dX3_freeFor_11 : decode cX3_freeFor 11 = .ok (.aload_n 2, 1) := by decide +kernel
theorem dX3_freeFor_12 : decode cX3_freeFor 12 = .ok (.invokevirtual 226, 3) := by decide +kernel
theorem dX3_freeFor_15 : decode cX3_freeFor 15 = .ok (.ireturn, 1) := by decide +kernel
theorem dX3_use_0 : decode cX3_use 0 = .ok (.aload_n 0, 1) := by decide +kernel
theorem dX3_use_1 : decode cX3_use 1 = .ok (.iload_n 1, 1) := by decide +kernel
theorem dX3_use_2 : decode cX3_use 2 = .ok (.invokevirtual 152, 3) := by decide +kernel
theorem dX3_use_5 : decode cX3_use 5 = .ok (.getfield 230, 3) := by decide +kernel
theorem dX3_use_8 : decode cX3_use 8 = .ok (.lreturn, 1) := by decide +kernel
theorem dX3_usedShare_0 : decode cX3_usedShare 0 = .ok (.aload_n 0, 1) := by decide +kernel
theorem dX3_usedShare_1 : decode cX3_usedShare 1 = .ok (.getfield 40, 3) := by decide +kernel
theorem dX3_usedShare_4 : decode cX3_usedShare 4 = .ok (.ifCond .ne 13, 3) := by decide +kernel
theorem dX3_usedShare_7 : decode cX3_usedShare 7 = .ok (.new 234, 3) := by decide +kernel
theorem dX3_usedShare_10 : decode cX3_usedShare 10 = .ok (.dup, 1) := by decide +kernel
theorem dX3_usedShare_11 : decode cX3_usedShare 11 = .ok (.ldc 236, 2) := by decide +kernel
theorem dX3_usedShare_13 : decode cX3_usedShare 13 = .ok (.invokespecial 238, 3) := by decide +kernel
theorem dX3_usedShare_16 : decode cX3_usedShare 16 = .ok (.athrow, 1) := by decide +kernel
theorem dX3_usedShare_17 : decode cX3_usedShare 17 = .ok (.aload_n 0, 1) := by decide +kernel
theorem dX3_usedShare_18 : decode cX3_usedShare 18 = .ok (.getfield 21, 3) := by decide +kernel
theorem dX3_usedShare_21 : decode cX3_usedShare 21 = .ok (.getfield 98, 3) := by decide +kernel
theorem dX3_usedShare_24 : decode cX3_usedShare 24 = .ok (.i2f, 1) := by decide +kernel
theorem dX3_usedShare_25 : decode cX3_usedShare 25 = .ok (.aload_n 0, 1) := by decide +kernel
theorem dX3_usedShare_26 : decode cX3_usedShare 26 = .ok (.getfield 40, 3) := by decide +kernel
theorem dX3_usedShare_29 : decode cX3_usedShare 29 = .ok (.i2f, 1) := by decide +kernel
theorem dX3_usedShare_30 : decode cX3_usedShare 30 = .ok (.fdiv, 1) := by decide +kernel
theorem dX3_usedShare_31 : decode cX3_usedShare 31 = .ok (.freturn, 1) := by decide +kernel
theorem dX3_meanStops_0 : decode cX3_meanStops 0 = .ok (.iconst 0, 1) := by decide +kernel
theorem dX3_meanStops_1 : decode cX3_meanStops 1 = .ok (.istore_n 1, 1) := by decide +kernel
theorem dX3_meanStops_2 : decode cX3_meanStops 2 = .ok (.iconst 0, 1) := by decide +kernel
theorem dX3_meanStops_3 : decode cX3_meanStops 3 = .ok (.istore_n 2, 1) := by decide +kernel
theorem dX3_meanStops_4 : decode cX3_meanStops 4 = .ok (.iconst 0, 1) := by decide +kernel
theorem dX3_meanStops_5 : decode cX3_meanStops 5 = .ok (.istore_n 3, 1) := by decide +kernel
theorem dX3_meanStops_6 : decode cX3_meanStops 6 = .ok (.iload_n 3, 1) := by decide +kernel
theorem dX3_meanStops_7 : decode cX3_meanStops 7 = .ok (.aload_n 0, 1) := by decide +kernel
theorem dX3_meanStops_8 : decode cX3_meanStops 8 = .ok (.getfield 25, 3) := by decide +kernel
theorem dX3_meanStops_11 : decode cX3_meanStops 11 = .ok (.invokevirtual 65, 3) := by decide +kernel
theorem dX3_meanStops_14 : decode cX3_meanStops 14 = .ok (.if_icmp .ge 43, 3) := by decide +kernel
theorem dX3_meanStops_17 : decode cX3_meanStops 17 = .ok (.aload_n 0, 1) := by decide +kernel
theorem dX3_meanStops_18 : decode cX3_meanStops 18 = .ok (.getfield 25, 3) := by decide +kernel
theorem dX3_meanStops_21 : decode cX3_meanStops 21 = .ok (.iload_n 3, 1) := by decide +kernel
theorem dX3_meanStops_22 : decode cX3_meanStops 22 = .ok (.invokevirtual 169, 3) := by decide +kernel
theorem dX3_meanStops_25 : decode cX3_meanStops 25 = .ok (.checkcast 112, 3) := by decide +kernel
theorem dX3_meanStops_28 : decode cX3_meanStops 28 = .ok (.astore 4, 2) := by decide +kernel
theorem dX3_meanStops_30 : decode cX3_meanStops 30 = .ok (.aload 4, 2) := by decide +kernel
theorem dX3_meanStops_32 : decode cX3_meanStops 32 = .ok (.getfield 122, 3) := by decide +kernel
theorem dX3_meanStops_35 : decode cX3_meanStops 35 = .ok (.bipush 101, 2) := by decide +kernel
theorem dX3_meanStops_37 : decode cX3_meanStops 37 = .ok (.if_icmp .ne 14, 3) := by decide +kernel
theorem dX3_meanStops_40 : decode cX3_meanStops 40 = .ok (.iinc 1 1, 3) := by decide +kernel
theorem dX3_meanStops_43 : decode cX3_meanStops 43 = .ok (.iload_n 2, 1) := by decide +kernel
theorem dX3_meanStops_44 : decode cX3_meanStops 44 = .ok (.aload 4, 2) := by decide +kernel
theorem dX3_meanStops_46 : decode cX3_meanStops 46 = .ok (.getfield 149, 3) := by decide +kernel
theorem dX3_meanStops_49 : decode cX3_meanStops 49 = .ok (.iadd, 1) := by decide +kernel
theorem dX3_meanStops_50 : decode cX3_meanStops 50 = .ok (.istore_n 2, 1) := by decide +kernel
theorem dX3_meanStops_51 : decode cX3_meanStops 51 = .ok (.iinc 3 1, 3) := by decide +kernel
theorem dX3_meanStops_54 : decode cX3_meanStops 54 = .ok (.goto (-48), 3) := by decide +kernel
theorem dX3_meanStops_57 : decode cX3_meanStops 57 = .ok (.iload_n 1, 1) := by decide +kernel
theorem dX3_meanStops_58 : decode cX3_meanStops 58 = .ok (.ifCond .ne 13, 3) := by decide +kernel
theorem dX3_meanStops_61 : decode cX3_meanStops 61 = .ok (.new 234, 3) := by decide +kernel
theorem dX3_meanStops_64 : decode cX3_meanStops 64 = .ok (.dup, 1) := by decide +kernel
theorem dX3_meanStops_65 : decode cX3_meanStops 65 = .ok (.ldc 239, 2) := by decide +kernel
theorem dX3_meanStops_67 : decode cX3_meanStops 67 = .ok (.invokespecial 238, 3) := by decide +kernel
theorem dX3_meanStops_70 : decode cX3_meanStops 70 = .ok (.athrow, 1) := by decide +kernel
theorem dX3_meanStops_71 : decode cX3_meanStops 71 = .ok (.iload_n 2, 1) := by decide +kernel
theorem dX3_meanStops_72 : decode cX3_meanStops 72 = .ok (.i2d, 1) := by decide +kernel
theorem dX3_meanStops_73 : decode cX3_meanStops 73 = .ok (.iload_n 1, 1) := by decide +kernel
theorem dX3_meanStops_74 : decode cX3_meanStops 74 = .ok (.i2d, 1) := by decide +kernel
theorem dX3_meanStops_75 : decode cX3_meanStops 75 = .ok (.ddiv, 1) := by decide +kernel
theorem dX3_meanStops_76 : decode cX3_meanStops 76 = .ok (.dreturn, 1) := by decide +kernel
theorem dX3_isFair_0 : decode cX3_isFair 0 = .ok (.aload_n 0, 1) := by decide +kernel
theorem dX3_isFair_1 : decode cX3_isFair 1 = .ok (.invokevirtual 220, 3) := by decide +kernel
theorem dX3_isFair_4 : decode cX3_isFair 4 = .ok (.aload_n 0, 1) := by decide +kernel
theorem dX3_isFair_5 : decode cX3_isFair 5 = .ok (.invokevirtual 214, 3) := by decide +kernel
theorem dX3_isFair_8 : decode cX3_isFair 8 = .ok (.aload_n 0, 1) := by decide +kernel
theorem dX3_isFair_9 : decode cX3_isFair 9 = .ok (.getfield 21, 3) := by decide +kernel
theorem dX3_isFair_12 : decode cX3_isFair 12 = .ok (.getfield 98, 3) := by decide +kernel
theorem dX3_isFair_15 : decode cX3_isFair 15 = .ok (.aload_n 0, 1) := by decide +kernel
theorem dX3_isFair_16 : decode cX3_isFair 16 = .ok (.getfield 40, 3) := by decide +kernel
theorem dX3_isFair_19 : decode cX3_isFair 19 = .ok (.if_icmp .gt 21, 3) := by decide +kernel
theorem dX3_isFair_22 : decode cX3_isFair 22 = .ok (.aload_n 0, 1) := by decide +kernel
theorem dX3_isFair_23 : decode cX3_isFair 23 = .ok (.invokevirtual 241, 3) := by decide +kernel
theorem dX3_isFair_26 : decode cX3_isFair 26 = .ok (.ifCond .eq 14, 3) := by decide +kernel
theorem dX3_isFair_29 : decode cX3_isFair 29 = .ok (.aload_n 0, 1) := by decide +kernel
theorem dX3_isFair_30 : decode cX3_isFair 30 = .ok (.invokevirtual 245, 3) := by decide +kernel
theorem dX3_isFair_33 : decode cX3_isFair 33 = .ok (.ifCond .ne 7, 3) := by decide +kernel
theorem dX3_isFair_36 : decode cX3_isFair 36 = .ok (.iconst 1, 1) := by decide +kernel
theorem dX3_isFair_37 : decode cX3_isFair 37 = .ok (.goto 4, 3) := by decide +kernel
theorem dX3_isFair_40 : decode cX3_isFair 40 = .ok (.iconst 0, 1) := by decide +kernel
theorem dX3_isFair_41 : decode cX3_isFair 41 = .ok (.ireturn, 1) := by decide +kernel
theorem dX3_teamAt_0 : decode cX3_teamAt 0 = .ok (.iload_n 1, 1) := by decide +kernel
theorem dX3_teamAt_1 : decode cX3_teamAt 1 = .ok (.ifCond .lt 14, 3) := by decide +kernel
theorem dX3_teamAt_4 : decode cX3_teamAt 4 = .ok (.iload_n 1, 1) := by decide +kernel
theorem dX3_teamAt_5 : decode cX3_teamAt 5 = .ok (.aload_n 0, 1) := by decide +kernel
theorem dX3_teamAt_6 : decode cX3_teamAt 6 = .ok (.getfield 10, 3) := by decide +kernel
theorem dX3_teamAt_9 : decode cX3_teamAt 9 = .ok (.invokevirtual 65, 3) := by decide +kernel
theorem dX3_teamAt_12 : decode cX3_teamAt 12 = .ok (.if_icmp .lt 13, 3) := by decide +kernel
theorem dX3_teamAt_15 : decode cX3_teamAt 15 = .ok (.new 248, 3) := by decide +kernel
theorem dX3_teamAt_18 : decode cX3_teamAt 18 = .ok (.dup, 1) := by decide +kernel
theorem dX3_teamAt_19 : decode cX3_teamAt 19 = .ok (.ldc 250, 2) := by decide +kernel
theorem dX3_teamAt_21 : decode cX3_teamAt 21 = .ok (.invokespecial 252, 3) := by decide +kernel
theorem dX3_teamAt_24 : decode cX3_teamAt 24 = .ok (.athrow, 1) := by decide +kernel
theorem dX3_teamAt_25 : decode cX3_teamAt 25 = .ok (.aload_n 0, 1) := by decide +kernel
theorem dX3_teamAt_26 : decode cX3_teamAt 26 = .ok (.getfield 10, 3) := by decide +kernel
theorem dX3_teamAt_29 : decode cX3_teamAt 29 = .ok (.iload_n 1, 1) := by decide +kernel
theorem dX3_teamAt_30 : decode cX3_teamAt 30 = .ok (.invokevirtual 169, 3) := by decide +kernel
theorem dX3_teamAt_33 : decode cX3_teamAt 33 = .ok (.checkcast 16, 3) := by decide +kernel
theorem dX3_teamAt_36 : decode cX3_teamAt 36 = .ok (.areturn, 1) := by decide +kernel
theorem dX3_teamBelowRoot_0 : decode cX3_teamBelowRoot 0 = .ok (.aload_n 0, 1) := by decide +kernel
theorem dX3_teamBelowRoot_1 : decode cX3_teamBelowRoot 1 = .ok (.iload_n 1, 1) := by decide +kernel
theorem dX3_teamBelowRoot_2 : decode cX3_teamBelowRoot 2 = .ok (.invokevirtual 57, 3) := by decide +kernel
theorem dX3_teamBelowRoot_5 : decode cX3_teamBelowRoot 5 = .ok (.astore_n 2, 1) := by decide +kernel
theorem dX3_teamBelowRoot_6 : decode cX3_teamBelowRoot 6 = .ok (.aload_n 2, 1) := by decide +kernel
theorem dX3_teamBelowRoot_7 : decode cX3_teamBelowRoot 7 = .ok (.aload_n 0, 1) := by decide +kernel
theorem dX3_teamBelowRoot_8 : decode cX3_teamBelowRoot 8 = .ok (.getfield 21, 3) := by decide +kernel
theorem dX3_teamBelowRoot_11 : decode cX3_teamBelowRoot 11 = .ok (.if_acmp .ne 13, 3) := by decide +kernel
theorem dX3_teamBelowRoot_14 : decode cX3_teamBelowRoot 14 = .ok (.new 253, 3) := by decide +kernel
theorem dX3_teamBelowRoot_17 : decode cX3_teamBelowRoot 17 = .ok (.dup, 1) := by decide +kernel
theorem dX3_teamBelowRoot_18 : decode cX3_teamBelowRoot 18 = .ok (.ldc 255, 2) := by decide +kernel
theorem dX3_teamBelowRoot_20 : decode cX3_teamBelowRoot 20 = .ok (.invokespecial 257, 3) := by decide +kernel
theorem dX3_teamBelowRoot_23 : decode cX3_teamBelowRoot 23 = .ok (.athrow, 1) := by decide +kernel
theorem dX3_teamBelowRoot_24 : decode cX3_teamBelowRoot 24 = .ok (.aload_n 2, 1) := by decide +kernel
theorem dX3_teamBelowRoot_25 : decode cX3_teamBelowRoot 25 = .ok (.areturn, 1) := by decide +kernel
theorem dX3_leafAt_0 : decode cX3_leafAt 0 = .ok (.aload_n 0, 1) := by decide +kernel
theorem dX3_leafAt_1 : decode cX3_leafAt 1 = .ok (.iload_n 1, 1) := by decide +kernel
theorem dX3_leafAt_2 : decode cX3_leafAt 2 = .ok (.invokevirtual 57, 3) := by decide +kernel
theorem dX3_leafAt_5 : decode cX3_leafAt 5 = .ok (.astore_n 2, 1) := by decide +kernel
theorem dX3_leafAt_6 : decode cX3_leafAt 6 = .ok (.aload_n 2, 1) := by decide +kernel
theorem dX3_leafAt_7 : decode cX3_leafAt 7 = .ok (.invokestatic 106, 3) := by decide +kernel
theorem dX3_leafAt_10 : decode cX3_leafAt 10 = .ok (.aload_n 2, 1) := by decide +kernel
theorem dX3_leafAt_11 : decode cX3_leafAt 11 = .ok (.areturn, 1) := by decide +kernel
theorem dX3_requireLeaf_0 : decode cX3_requireLeaf 0 = .ok (.aload_n 0, 1) := by decide +kernel
theorem dX3_requireLeaf_1 : decode cX3_requireLeaf 1 = .ok (.invokevirtual 258, 3) := by decide +kernel
theorem dX3_requireLeaf_4 : decode cX3_requireLeaf 4 = .ok (.ifCond .ne 14, 3) := by decide +kernel
theorem dX3_requireLeaf_7 : decode cX3_requireLeaf 7 = .ok (.new 253, 3) := by decide +kernel
theorem dX3_requireLeaf_10 : decode cX3_requireLeaf 10 = .ok (.dup, 1) := by decide +kernel
theorem dX3_requireLeaf_11 : decode cX3_requireLeaf 11 = .ok (.ldc_w 261, 3) := by decide +kernel
theorem dX3_requireLeaf_14 : decode cX3_requireLeaf 14 = .ok (.invokespecial 257, 3) := by decide +kernel
theorem dX3_requireLeaf_17 : decode cX3_requireLeaf 17 = .ok (.athrow, 1) := by decide +kernel
theorem dX3_requireLeaf_18 : decode cX3_requireLeaf 18 = .ok (.return_, 1) := by decide +kernel
theorem dX3_requireRange_0 : decode cX3_requireRange 0 = .ok (.iload_n 0, 1) := by decide +kernel
theorem dX3_requireRange_1 : decode cX3_requireRange 1 = .ok (.iload_n 1, 1) := by decide +kernel
theorem dX3_requireRange_2 : decode cX3_requireRange 2 = .ok (.if_icmp .lt 8, 3) := by decide +kernel
theorem dX3_requireRange_5 : decode cX3_requireRange 5 = .ok (.iload_n 0, 1) := by decide +kernel
theorem dX3_requireRange_6 : decode cX3_requireRange 6 = .ok (.iload_n 2, 1) := by decide +kernel
theorem dX3_requireRange_7 : decode cX3_requireRange 7 = .ok (.if_icmp .le 14, 3) := by decide +kernel
theorem dX3_requireRange_10 : decode cX3_requireRange 10 = .ok (.new 263, 3) := by decide +kernel
theorem dX3_requireRange_13 : decode cX3_requireRange 13 = .ok (.dup, 1) := by decide +kernel
theorem dX3_requireRange_14 : decode cX3_requireRange 14 = .ok (.ldc_w 265, 3) := by decide +kernel
theorem dX3_requireRange_17 : decode cX3_requireRange 17 = .ok (.invokespecial 267, 3) := by decide +kernel
theorem dX3_requireRange_20 : decode cX3_requireRange 20 = .ok (.athrow, 1) := by decide +kernel
theorem dX3_requireRange_21 : decode cX3_requireRange 21 = .ok (.return_, 1) := by decide +kernel
theorem dX3_jobAt_0 : decode cX3_jobAt 0 = .ok (.iload_n 1, 1) := by decide +kernel
theorem dX3_jobAt_1 : decode cX3_jobAt 1 = .ok (.ifCond .lt 14, 3) := by decide +kernel
theorem dX3_jobAt_4 : decode cX3_jobAt 4 = .ok (.iload_n 1, 1) := by decide +kernel
theorem dX3_jobAt_5 : decode cX3_jobAt 5 = .ok (.aload_n 0, 1) := by decide +kernel
theorem dX3_jobAt_6 : decode cX3_jobAt 6 = .ok (.getfield 25, 3) := by decide +kernel
theorem dX3_jobAt_9 : decode cX3_jobAt 9 = .ok (.invokevirtual 65, 3) := by decide +kernel
theorem dX3_jobAt_12 : decode cX3_jobAt 12 = .ok (.if_icmp .lt 14, 3) := by decide +kernel
theorem dX3_jobAt_15 : decode cX3_jobAt 15 = .ok (.new 159, 3) := by decide +kernel
theorem dX3_jobAt_18 : decode cX3_jobAt 18 = .ok (.dup, 1) := by decide +kernel
theorem dX3_jobAt_19 : decode cX3_jobAt 19 = .ok (.ldc_w 268, 3) := by decide +kernel
theorem dX3_jobAt_22 : decode cX3_jobAt 22 = .ok (.invokespecial 163, 3) := by decide +kernel
theorem dX3_jobAt_25 : decode cX3_jobAt 25 = .ok (.athrow, 1) := by decide +kernel
theorem dX3_jobAt_26 : decode cX3_jobAt 26 = .ok (.aload_n 0, 1) := by decide +kernel
theorem dX3_jobAt_27 : decode cX3_jobAt 27 = .ok (.getfield 25, 3) := by decide +kernel
theorem dX3_jobAt_30 : decode cX3_jobAt 30 = .ok (.iload_n 1, 1) := by decide +kernel
theorem dX3_jobAt_31 : decode cX3_jobAt 31 = .ok (.invokevirtual 169, 3) := by decide +kernel
theorem dX3_jobAt_34 : decode cX3_jobAt 34 = .ok (.checkcast 112, 3) := by decide +kernel
theorem dX3_jobAt_37 : decode cX3_jobAt 37 = .ok (.areturn, 1) := by decide +kernel
theorem dX3_aliveJobAt_0 : decode cX3_aliveJobAt 0 = .ok (.aload_n 0, 1) := by decide +kernel
theorem dX3_aliveJobAt_1 : decode cX3_aliveJobAt 1 = .ok (.iload_n 1, 1) := by decide +kernel
theorem dX3_aliveJobAt_2 : decode cX3_aliveJobAt 2 = .ok (.invokevirtual 140, 3) := by decide +kernel
theorem dX3_aliveJobAt_5 : decode cX3_aliveJobAt 5 = .ok (.astore_n 2, 1) := by decide +kernel
theorem dX3_aliveJobAt_6 : decode cX3_aliveJobAt 6 = .ok (.aload_n 2, 1) := by decide +kernel
theorem dX3_aliveJobAt_7 : decode cX3_aliveJobAt 7 = .ok (.invokevirtual 270, 3) := by decide +kernel
theorem dX3_aliveJobAt_10 : decode cX3_aliveJobAt 10 = .ok (.ifCond .ne 14, 3) := by decide +kernel
theorem dX3_aliveJobAt_13 : decode cX3_aliveJobAt 13 = .ok (.new 73, 3) := by decide +kernel
theorem dX3_aliveJobAt_16 : decode cX3_aliveJobAt 16 = .ok (.dup, 1) := by decide +kernel
theorem dX3_aliveJobAt_17 : decode cX3_aliveJobAt 17 = .ok (.ldc_w 273, 3) := by decide +kernel
theorem dX3_aliveJobAt_20 : decode cX3_aliveJobAt 20 = .ok (.invokespecial 77, 3) := by decide +kernel
theorem dX3_aliveJobAt_23 : decode cX3_aliveJobAt 23 = .ok (.athrow, 1) := by decide +kernel
theorem dX3_aliveJobAt_24 : decode cX3_aliveJobAt 24 = .ok (.aload_n 2, 1) := by decide +kernel
theorem dX3_aliveJobAt_25 : decode cX3_aliveJobAt 25 = .ok (.areturn, 1) := by decide +kernel
theorem dX3_endJobs_0 : decode cX3_endJobs 0 = .ok (.iconst 0, 1) := by decide +kernel
theorem dX3_endJobs_1 : decode cX3_endJobs 1 = .ok (.istore_n 1, 1) := by decide +kernel
theorem dX3_endJobs_2 : decode cX3_endJobs 2 = .ok (.iconst 0, 1) := by decide +kernel
theorem dX3_endJobs_3 : decode cX3_endJobs 3 = .ok (.istore_n 2, 1) := by decide +kernel
theorem dX3_endJobs_4 : decode cX3_endJobs 4 = .ok (.iload_n 2, 1) := by decide +kernel
theorem dX3_endJobs_5 : decode cX3_endJobs 5 = .ok (.aload_n 0, 1) := by decide +kernel
theorem dX3_endJobs_6 : decode cX3_endJobs 6 = .ok (.getfield 28, 3) := by decide +kernel
theorem dX3_endJobs_9 : decode cX3_endJobs 9 = .ok (.invokevirtual 65, 3) := by decide +kernel
theorem dX3_endJobs_12 : decode cX3_endJobs 12 = .ok (.if_icmp .ge 60, 3) := by decide +kernel
theorem dX3_endJobs_15 : decode cX3_endJobs 15 = .ok (.aload_n 0, 1) := by decide +kernel
theorem dX3_endJobs_16 : decode cX3_endJobs 16 = .ok (.getfield 28, 3) := by decide +kernel
theorem dX3_endJobs_19 : decode cX3_endJobs 19 = .ok (.iload_n 2, 1) := by decide +kernel
theorem dX3_endJobs_20 : decode cX3_endJobs 20 = .ok (.invokevirtual 169, 3) := by decide +kernel
theorem dX3_endJobs_23 : decode cX3_endJobs 23 = .ok (.checkcast 112, 3) := by decide +kernel
theorem dX3_endJobs_26 : decode cX3_endJobs 26 = .ok (.astore_n 3, 1) := by decide +kernel
theorem dX3_endJobs_27 : decode cX3_endJobs 27 = .ok (.aload_n 3, 1) := by decide +kernel
theorem dX3_endJobs_28 : decode cX3_endJobs 28 = .ok (.getfield 122, 3) := by decide +kernel
theorem dX3_endJobs_31 : decode cX3_endJobs 31 = .ok (.bipush 114, 2) := by decide +kernel
theorem dX3_endJobs_33 : decode cX3_endJobs 33 = .ok (.if_icmp .ne 33, 3) := by decide +kernel
theorem dX3_endJobs_36 : decode cX3_endJobs 36 = .ok (.aload_n 3, 1) := by decide +kernel
theorem dX3_endJobs_37 : decode cX3_endJobs 37 = .ok (.dup, 1) := by decide +kernel
theorem dX3_endJobs_38 : decode cX3_endJobs 38 = .ok (.getfield 143, 3) := by decide +kernel
theorem dX3_endJobs_41 : decode cX3_endJobs 41 = .ok (.iconst 1, 1) := by decide +kernel
theorem dX3_endJobs_42 : decode cX3_endJobs 42 = .ok (.isub, 1) := by decide +kernel
theorem dX3_endJobs_43 : decode cX3_endJobs 43 = .ok (.putfield 143, 3) := by decide +kernel
theorem dX3_endJobs_46 : decode cX3_endJobs 46 = .ok (.aload_n 3, 1) := by decide +kernel
theorem dX3_endJobs_47 : decode cX3_endJobs 47 = .ok (.getfield 143, 3) := by decide +kernel
theorem dX3_endJobs_50 : decode cX3_endJobs 50 = .ok (.ifCond .gt 16, 3) := by decide +kernel
theorem dX3_endJobs_53 : decode cX3_endJobs 53 = .ok (.aload_n 3, 1) := by decide +kernel
theorem dX3_endJobs_54 : decode cX3_endJobs 54 = .ok (.invokevirtual 128, 3) := by decide +kernel
theorem dX3_endJobs_57 : decode cX3_endJobs 57 = .ok (.aload_n 3, 1) := by decide +kernel
theorem dX3_endJobs_58 : decode cX3_endJobs 58 = .ok (.bipush 101, 2) := by decide +kernel
theorem dX3_endJobs_60 : decode cX3_endJobs 60 = .ok (.putfield 122, 3) := by decide +kernel
theorem dX3_endJobs_63 : decode cX3_endJobs 63 = .ok (.iinc 1 1, 3) := by decide +kernel
theorem dX3_endJobs_66 : decode cX3_endJobs 66 = .ok (.iinc 2 1, 3) := by decide +kernel
theorem dX3_endJobs_69 : decode cX3_endJobs 69 = .ok (.goto (-65), 3) := by decide +kernel
theorem dX3_endJobs_72 : decode cX3_endJobs 72 = .ok (.aload_n 0, 1) := by decide +kernel
theorem dX3_endJobs_73 : decode cX3_endJobs 73 = .ok (.invokevirtual 131, 3) := by decide +kernel
theorem dX3_endJobs_76 : decode cX3_endJobs 76 = .ok (.iload_n 1, 1) := by decide +kernel
theorem dX3_endJobs_77 : decode cX3_endJobs 77 = .ok (.ireturn, 1) := by decide +kernel
theorem dX3_changeUse_0 : decode cX3_changeUse 0 = .ok (.aload_n 0, 1) := by decide +kernel
theorem dX3_changeUse_1 : decode cX3_changeUse 1 = .ok (.getfield 44, 3) := by decide +kernel
theorem dX3_changeUse_4 : decode cX3_changeUse 4 = .ok (.ifCond .le 19, 3) := by decide +kernel
theorem dX3_changeUse_7 : decode cX3_changeUse 7 = .ok (.aload_n 0, 1) := by decide +kernel
theorem dX3_changeUse_8 : decode cX3_changeUse 8 = .ok (.getfield 47, 3) := by decide +kernel
theorem dX3_changeUse_11 : decode cX3_changeUse 11 = .ok (.aload_n 0, 1) := by decide +kernel
theorem dX3_changeUse_12 : decode cX3_changeUse 12 = .ok (.getfield 44, 3) := by decide +kernel
theorem dX3_changeUse_15 : decode cX3_changeUse 15 = .ok (.irem, 1) := by decide +kernel
theorem dX3_changeUse_16 : decode cX3_changeUse 16 = .ok (.ifCond .ne 7, 3) := by decide +kernel
theorem dX3_changeUse_19 : decode cX3_changeUse 19 = .ok (.iconst 1, 1) := by decide +kernel
theorem dX3_changeUse_20 : decode cX3_changeUse 20 = .ok (.goto 4, 3) := by decide +kernel
theorem dX3_changeUse_23 : decode cX3_changeUse 23 = .ok (.iconst 0, 1) := by decide +kernel
theorem dX3_changeUse_24 : decode cX3_changeUse 24 = .ok (.istore_n 1, 1) := by decide +kernel
theorem dX3_changeUse_25 : decode cX3_changeUse 25 = .ok (.iconst 0, 1) := by decide +kernel
theorem dX3_changeUse_26 : decode cX3_changeUse 26 = .ok (.istore_n 2, 1) := by decide +kernel
theorem dX3_changeUse_27 : decode cX3_changeUse 27 = .ok (.iload_n 2, 1) := by decide +kernel
theorem dX3_changeUse_28 : decode cX3_changeUse 28 = .ok (.aload_n 0, 1) := by decide +kernel
theorem dX3_changeUse_29 : decode cX3_changeUse 29 = .ok (.getfield 10, 3) := by decide +kernel
theorem dX3_changeUse_32 : decode cX3_changeUse 32 = .ok (.invokevirtual 65, 3) := by decide +kernel
theorem dX3_changeUse_35 : decode cX3_changeUse 35 = .ok (.if_icmp .ge 58, 3) := by decide +kernel
theorem dX3_changeUse_38 : decode cX3_changeUse 38 = .ok (.aload_n 0, 1) := by decide +kernel
theorem dX3_changeUse_39 : decode cX3_changeUse 39 = .ok (.getfield 10, 3) := by decide +kernel
theorem dX3_changeUse_42 : decode cX3_changeUse 42 = .ok (.iload_n 2, 1) := by decide +kernel
theorem dX3_changeUse_43 : decode cX3_changeUse 43 = .ok (.invokevirtual 169, 3) := by decide +kernel
theorem dX3_changeUse_46 : decode cX3_changeUse 46 = .ok (.checkcast 16, 3) := by decide +kernel
theorem dX3_changeUse_49 : decode cX3_changeUse 49 = .ok (.astore_n 3, 1) := by decide +kernel
theorem dX3_changeUse_50 : decode cX3_changeUse 50 = .ok (.aload_n 3, 1) := by decide +kernel
theorem dX3_changeUse_51 : decode cX3_changeUse 51 = .ok (.invokevirtual 258, 3) := by decide +kernel
theorem dX3_changeUse_54 : decode cX3_changeUse 54 = .ok (.ifCond .eq 33, 3) := by decide +kernel
theorem dX3_changeUse_57 : decode cX3_changeUse 57 = .ok (.aload_n 3, 1) := by decide +kernel
theorem dX3_changeUse_58 : decode cX3_changeUse 58 = .ok (.dup, 1) := by decide +kernel
theorem dX3_changeUse_59 : decode cX3_changeUse 59 = .ok (.getfield 230, 3) := by decide +kernel
theorem dX3_changeUse_62 : decode cX3_changeUse 62 = .ok (.aload_n 3, 1) := by decide +kernel
theorem dX3_changeUse_63 : decode cX3_changeUse 63 = .ok (.getfield 98, 3) := by decide +kernel
theorem dX3_changeUse_66 : decode cX3_changeUse 66 = .ok (.i2l, 1) := by decide +kernel
theorem dX3_changeUse_67 : decode cX3_changeUse 67 = .ok (.ladd, 1) := by decide +kernel
theorem dX3_changeUse_68 : decode cX3_changeUse 68 = .ok (.putfield 230, 3) := by decide +kernel
theorem dX3_changeUse_71 : decode cX3_changeUse 71 = .ok (.iload_n 1, 1) := by decide +kernel
theorem dX3_changeUse_72 : decode cX3_changeUse 72 = .ok (.ifCond .eq 15, 3) := by decide +kernel
theorem dX3_changeUse_75 : decode cX3_changeUse 75 = .ok (.aload_n 3, 1) := by decide +kernel
theorem dX3_changeUse_76 : decode cX3_changeUse 76 = .ok (.dup, 1) := by decide +kernel
theorem dX3_changeUse_77 : decode cX3_changeUse 77 = .ok (.getfield 230, 3) := by decide +kernel
theorem dX3_changeUse_80 : decode cX3_changeUse 80 = .ok (.ldc2_w 275, 3) := by decide +kernel
theorem dX3_changeUse_83 : decode cX3_changeUse 83 = .ok (.ldiv, 1) := by decide +kernel
theorem dX3_changeUse_84 : decode cX3_changeUse 84 = .ok (.putfield 230, 3) := by decide +kernel
theorem dX3_changeUse_87 : decode cX3_changeUse 87 = .ok (.iinc 2 1, 3) := by decide +kernel
theorem dX3_changeUse_90 : decode cX3_changeUse 90 = .ok (.goto (-63), 3) := by decide +kernel
theorem dX3_changeUse_93 : decode cX3_changeUse 93 = .ok (.return_, 1) := by decide +kernel
theorem dX3_forgetDeadJobs_0 : decode cX3_forgetDeadJobs 0 = .ok (.aload_n 0, 1) := by decide +kernel
theorem dX3_forgetDeadJobs_1 : decode cX3_forgetDeadJobs 1 = .ok (.getfield 28, 3) := by decide +kernel
theorem dX3_forgetDeadJobs_4 : decode cX3_forgetDeadJobs 4 = .ok (.invokevirtual 65, 3) := by decide +kernel
theorem dX3_forgetDeadJobs_7 : decode cX3_forgetDeadJobs 7 = .ok (.iconst 1, 1) := by decide +kernel
theorem dX3_forgetDeadJobs_8 : decode cX3_forgetDeadJobs 8 = .ok (.isub, 1) := by decide +kernel
theorem dX3_forgetDeadJobs_9 : decode cX3_forgetDeadJobs 9 = .ok (.istore_n 1, 1) := by decide +kernel
theorem dX3_forgetDeadJobs_10 : decode cX3_forgetDeadJobs 10 = .ok (.iload_n 1, 1) := by decide +kernel
theorem dX3_forgetDeadJobs_11 : decode cX3_forgetDeadJobs 11 = .ok (.ifCond .lt 35, 3) := by decide +kernel
theorem dX3_forgetDeadJobs_14 : decode cX3_forgetDeadJobs 14 = .ok (.aload_n 0, 1) := by decide +kernel
theorem dX3_forgetDeadJobs_15 : decode cX3_forgetDeadJobs 15 = .ok (.getfield 28, 3) := by decide +kernel
theorem dX3_forgetDeadJobs_18 : decode cX3_forgetDeadJobs 18 = .ok (.iload_n 1, 1) := by decide +kernel
theorem dX3_forgetDeadJobs_19 : decode cX3_forgetDeadJobs 19 = .ok (.invokevirtual 169, 3) := by decide +kernel
theorem dX3_forgetDeadJobs_22 : decode cX3_forgetDeadJobs 22 = .ok (.checkcast 112, 3) := by decide +kernel
theorem dX3_forgetDeadJobs_25 : decode cX3_forgetDeadJobs 25 = .ok (.invokevirtual 270, 3) := by decide +kernel
theorem dX3_forgetDeadJobs_28 : decode cX3_forgetDeadJobs 28 = .ok (.ifCond .ne 12, 3) := by decide +kernel
theorem dX3_forgetDeadJobs_31 : decode cX3_forgetDeadJobs 31 = .ok (.aload_n 0, 1) := by decide +kernel
theorem dX3_forgetDeadJobs_32 : decode cX3_forgetDeadJobs 32 = .ok (.getfield 28, 3) := by decide +kernel
theorem dX3_forgetDeadJobs_35 : decode cX3_forgetDeadJobs 35 = .ok (.iload_n 1, 1) := by decide +kernel
theorem dX3_forgetDeadJobs_36 : decode cX3_forgetDeadJobs 36 = .ok (.invokevirtual 277, 3) := by decide +kernel
theorem dX3_forgetDeadJobs_39 : decode cX3_forgetDeadJobs 39 = .ok (.pop, 1) := by decide +kernel
theorem dX3_forgetDeadJobs_40 : decode cX3_forgetDeadJobs 40 = .ok (.iinc 1 (-1), 3) := by decide +kernel
theorem dX3_forgetDeadJobs_43 : decode cX3_forgetDeadJobs 43 = .ok (.goto (-33), 3) := by decide +kernel
theorem dX3_forgetDeadJobs_46 : decode cX3_forgetDeadJobs 46 = .ok (.return_, 1) := by decide +kernel
theorem dX3_serve_0 : decode cX3_serve 0 = .ok (.aload_n 0, 1) := by decide +kernel
theorem dX3_serve_1 : decode cX3_serve 1 = .ok (.invokevirtual 220, 3) := by decide +kernel
theorem dX3_serve_4 : decode cX3_serve 4 = .ok (.iconst 1, 1) := by decide +kernel
theorem dX3_serve_5 : decode cX3_serve 5 = .ok (.istore_n 1, 1) := by decide +kernel
theorem dX3_serve_6 : decode cX3_serve 6 = .ok (.iconst 0, 1) := by decide +kernel
theorem dX3_serve_7 : decode cX3_serve 7 = .ok (.istore_n 2, 1) := by decide +kernel
theorem dX3_serve_8 : decode cX3_serve 8 = .ok (.iload_n 1, 1) := by decide +kernel
theorem dX3_serve_9 : decode cX3_serve 9 = .ok (.ifCond .eq 21, 3) := by decide +kernel
theorem dX3_serve_12 : decode cX3_serve 12 = .ok (.iload_n 2, 1) := by decide +kernel
theorem dX3_serve_13 : decode cX3_serve 13 = .ok (.ldc_w 280, 3) := by decide +kernel
theorem dX3_serve_16 : decode cX3_serve 16 = .ok (.if_icmp .ge 14, 3) := by decide +kernel
theorem dX3_serve_19 : decode cX3_serve 19 = .ok (.aload_n 0, 1) := by decide +kernel
theorem dX3_serve_20 : decode cX3_serve 20 = .ok (.invokevirtual 281, 3) := by decide +kernel
theorem dX3_serve_23 : decode cX3_serve 23 = .ok (.istore_n 1, 1) := by decide +kernel
theorem dX3_serve_24 : decode cX3_serve 24 = .ok (.iinc 2 1, 3) := by decide +kernel
theorem dX3_serve_27 : decode cX3_serve 27 = .ok (.goto (-19), 3) := by decide +kernel
theorem dX3_serve_30 : decode cX3_serve 30 = .ok (.return_, 1) := by decide +kernel
theorem dX3_serveNext_0 : decode cX3_serveNext 0 = .ok (.aload_n 0, 1) := by decide +kernel
theorem dX3_serveNext_1 : decode cX3_serveNext 1 = .ok (.invokevirtual 164, 3) := by decide +kernel
theorem dX3_serveNext_4 : decode cX3_serveNext 4 = .ok (.iconst 0, 1) := by decide +kernel
theorem dX3_serveNext_5 : decode cX3_serveNext 5 = .ok (.istore_n 1, 1) := by decide +kernel
theorem dX3_serveNext_6 : decode cX3_serveNext 6 = .ok (.iload_n 1, 1) := by decide +kernel
theorem dX3_serveNext_7 : decode cX3_serveNext 7 = .ok (.aload_n 0, 1) := by decide +kernel
theorem dX3_serveNext_8 : decode cX3_serveNext 8 = .ok (.getfield 34, 3) := by decide +kernel
theorem dX3_serveNext_11 : decode cX3_serveNext 11 = .ok (.invokevirtual 65, 3) := by decide +kernel
theorem dX3_serveNext_14 : decode cX3_serveNext 14 = .ok (.if_icmp .ge 40, 3) := by decide +kernel
theorem dX3_serveNext_17 : decode cX3_serveNext 17 = .ok (.aload_n 0, 1) := by decide +kernel
theorem dX3_serveNext_18 : decode cX3_serveNext 18 = .ok (.getfield 34, 3) := by decide +kernel
theorem dX3_serveNext_21 : decode cX3_serveNext 21 = .ok (.iload_n 1, 1) := by decide +kernel
theorem dX3_serveNext_22 : decode cX3_serveNext 22 = .ok (.invokevirtual 169, 3) := by decide +kernel
theorem dX3_serveNext_25 : decode cX3_serveNext 25 = .ok (.checkcast 112, 3) := by decide +kernel
theorem dX3_serveNext_28 : decode cX3_serveNext 28 = .ok (.astore_n 2, 1) := by decide +kernel
theorem dX3_serveNext_29 : decode cX3_serveNext 29 = .ok (.aload_n 0, 1) := by decide +kernel
theorem dX3_serveNext_30 : decode cX3_serveNext 30 = .ok (.aload_n 2, 1) := by decide +kernel
theorem dX3_serveNext_31 : decode cX3_serveNext 31 = .ok (.invokevirtual 284, 3) := by decide +kernel
theorem dX3_serveNext_34 : decode cX3_serveNext 34 = .ok (.ifCond .eq 14, 3) := by decide +kernel
theorem dX3_serveNext_37 : decode cX3_serveNext 37 = .ok (.aload_n 0, 1) := by decide +kernel
theorem dX3_serveNext_38 : decode cX3_serveNext 38 = .ok (.invokevirtual 288, 3) := by decide +kernel
theorem dX3_serveNext_41 : decode cX3_serveNext 41 = .ok (.aload_n 0, 1) := by decide +kernel
theorem dX3_serveNext_42 : decode cX3_serveNext 42 = .ok (.aload_n 2, 1) := by decide +kernel
theorem dX3_serveNext_43 : decode cX3_serveNext 43 = .ok (.invokevirtual 291, 3) := by decide +kernel
theorem dX3_serveNext_46 : decode cX3_serveNext 46 = .ok (.iconst 1, 1) := by decide +kernel
theorem dX3_serveNext_47 : decode cX3_serveNext 47 = .ok (.ireturn, 1) := by decide +kernel
theorem dX3_serveNext_48 : decode cX3_serveNext 48 = .ok (.iinc 1 1, 3) := by decide +kernel
theorem dX3_serveNext_51 : decode cX3_serveNext 51 = .ok (.goto (-45), 3) := by decide +kernel
theorem dX3_serveNext_54 : decode cX3_serveNext 54 = .ok (.iconst 0, 1) := by decide +kernel
theorem dX3_serveNext_55 : decode cX3_serveNext 55 = .ok (.ireturn, 1) := by decide +kernel
theorem dX3_stopVictims_0 : decode cX3_stopVictims 0 = .ok (.iconst 0, 1) := by decide +kernel
theorem dX3_stopVictims_1 : decode cX3_stopVictims 1 = .ok (.istore_n 1, 1) := by decide +kernel
theorem dX3_stopVictims_2 : decode cX3_stopVictims 2 = .ok (.iload_n 1, 1) := by decide +kernel
theorem dX3_stopVictims_3 : decode cX3_stopVictims 3 = .ok (.aload_n 0, 1) := by decide +kernel
theorem dX3_stopVictims_4 : decode cX3_stopVictims 4 = .ok (.getfield 37, 3) := by decide +kernel
theorem dX3_stopVictims_7 : decode cX3_stopVictims 7 = .ok (.invokevirtual 65, 3) := by decide +kernel
theorem dX3_stopVictims_10 : decode cX3_stopVictims 10 = .ok (.if_icmp .ge 35, 3) := by decide +kernel
theorem dX3_stopVictims_13 : decode cX3_stopVictims 13 = .ok (.aload_n 0, 1) := by decide +kernel
theorem dX3_stopVictims_14 : decode cX3_stopVictims 14 = .ok (.getfield 37, 3) := by decide +kernel
theorem dX3_stopVictims_17 : decode cX3_stopVictims 17 = .ok (.iload_n 1, 1) := by decide +kernel
theorem dX3_stopVictims_18 : decode cX3_stopVictims 18 = .ok (.invokevirtual 169, 3) := by decide +kernel
theorem dX3_stopVictims_21 : decode cX3_stopVictims 21 = .ok (.checkcast 112, 3) := by decide +kernel
theorem dX3_stopVictims_24 : decode cX3_stopVictims 24 = .ok (.astore_n 2, 1) := by decide +kernel
theorem dX3_stopVictims_25 : decode cX3_stopVictims 25 = .ok (.aload_n 2, 1) := by decide +kernel
theorem dX3_stopVictims_26 : decode cX3_stopVictims 26 = .ok (.invokevirtual 128, 3) := by decide +kernel
theorem dX3_stopVictims_29 : decode cX3_stopVictims 29 = .ok (.aload_n 2, 1) := by decide +kernel
theorem dX3_stopVictims_30 : decode cX3_stopVictims 30 = .ok (.dup, 1) := by decide +kernel
theorem dX3_stopVictims_31 : decode cX3_stopVictims 31 = .ok (.getfield 149, 3) := by decide +kernel
theorem dX3_stopVictims_34 : decode cX3_stopVictims 34 = .ok (.iconst 1, 1) := by decide +kernel
theorem dX3_stopVictims_35 : decode cX3_stopVictims 35 = .ok (.iadd, 1) := by decide +kernel
theorem dX3_stopVictims_36 : decode cX3_stopVictims 36 = .ok (.putfield 149, 3) := by decide +kernel
theorem dX3_stopVictims_39 : decode cX3_stopVictims 39 = .ok (.iinc 1 1, 3) := by decide +kernel
theorem dX3_stopVictims_42 : decode cX3_stopVictims 42 = .ok (.goto (-40), 3) := by decide +kernel
theorem dX3_stopVictims_45 : decode cX3_stopVictims 45 = .ok (.return_, 1) := by decide +kernel
theorem dX3_start_0 : decode cX3_start 0 = .ok (.aload_n 1, 1) := by decide +kernel
theorem dX3_start_1 : decode cX3_start 1 = .ok (.invokevirtual 295, 3) := by decide +kernel
theorem dX3_start_4 : decode cX3_start 4 = .ok (.aload_n 1, 1) := by decide +kernel
theorem dX3_start_5 : decode cX3_start 5 = .ok (.aload_n 1, 1) := by decide +kernel
theorem dX3_start_6 : decode cX3_start 6 = .ok (.getfield 146, 3) := by decide +kernel
theorem dX3_start_9 : decode cX3_start 9 = .ok (.putfield 143, 3) := by decide +kernel
theorem dX3_start_12 : decode cX3_start 12 = .ok (.aload_n 0, 1) := by decide +kernel
theorem dX3_start_13 : decode cX3_start 13 = .ok (.dup, 1) := by decide +kernel
theorem dX3_start_14 : decode cX3_start 14 = .ok (.getfield 50, 3) := by decide +kernel
theorem dX3_start_17 : decode cX3_start 17 = .ok (.iconst 1, 1) := by decide +kernel
theorem dX3_start_18 : decode cX3_start 18 = .ok (.iadd, 1) := by decide +kernel
theorem dX3_start_19 : decode cX3_start 19 = .ok (.putfield 50, 3) := by decide +kernel
theorem dX3_start_22 : decode cX3_start 22 = .ok (.aload_n 1, 1) := by decide +kernel
theorem dX3_start_23 : decode cX3_start 23 = .ok (.aload_n 0, 1) := by decide +kernel
theorem dX3_start_24 : decode cX3_start 24 = .ok (.getfield 50, 3) := by decide +kernel
theorem dX3_start_27 : decode cX3_start 27 = .ok (.putfield 298, 3) := by decide +kernel
theorem dX3_start_30 : decode cX3_start 30 = .ok (.return_, 1) := by decide +kernel
theorem dX3_formLine_0 : decode cX3_formLine 0 = .ok (.aload_n 0, 1) := by decide +kernel
theorem dX3_formLine_1 : decode cX3_formLine 1 = .ok (.getfield 34, 3) := by decide +kernel
theorem dX3_formLine_4 : decode cX3_formLine 4 = .ok (.invokevirtual 301, 3) := by decide +kernel
theorem dX3_formLine_7 : decode cX3_formLine 7 = .ok (.iconst 0, 1) := by decide +kernel
theorem dX3_formLine_8 : decode cX3_formLine 8 = .ok (.istore_n 1, 1) := by decide +kernel
theorem dX3_formLine_9 : decode cX3_formLine 9 = .ok (.iload_n 1, 1) := by decide +kernel
theorem dX3_formLine_10 : decode cX3_formLine 10 = .ok (.aload_n 0, 1) := by decide +kernel
theorem dX3_formLine_11 : decode cX3_formLine 11 = .ok (.getfield 10, 3) := by decide +kernel
theorem dX3_formLine_14 : decode cX3_formLine 14 = .ok (.invokevirtual 65, 3) := by decide +kernel
theorem dX3_formLine_17 : decode cX3_formLine 17 = .ok (.if_icmp .ge 45, 3) := by decide +kernel
theorem dX3_formLine_20 : decode cX3_formLine 20 = .ok (.aload_n 0, 1) := by decide +kernel
theorem dX3_formLine_21 : decode cX3_formLine 21 = .ok (.aload_n 0, 1) := by decide +kernel
theorem dX3_formLine_22 : decode cX3_formLine 22 = .ok (.getfield 10, 3) := by decide +kernel
theorem dX3_formLine_25 : decode cX3_formLine 25 = .ok (.iload_n 1, 1) := by decide +kernel
theorem dX3_formLine_26 : decode cX3_formLine 26 = .ok (.invokevirtual 169, 3) := by decide +kernel
theorem dX3_formLine_29 : decode cX3_formLine 29 = .ok (.checkcast 16, 3) := by decide +kernel
theorem dX3_formLine_32 : decode cX3_formLine 32 = .ok (.invokevirtual 155, 3) := by decide +kernel
theorem dX3_formLine_35 : decode cX3_formLine 35 = .ok (.astore_n 2, 1) := by decide +kernel
theorem dX3_formLine_36 : decode cX3_formLine 36 = .ok (.aload_n 2, 1) := by decide +kernel
theorem dX3_formLine_37 : decode cX3_formLine 37 = .ok (.ifnull 19, 3) := by decide +kernel
theorem dX3_formLine_40 : decode cX3_formLine 40 = .ok (.aload_n 0, 1) := by decide +kernel
theorem dX3_formLine_41 : decode cX3_formLine 41 = .ok (.getfield 34, 3) := by decide +kernel
theorem dX3_formLine_44 : decode cX3_formLine 44 = .ok (.aload_n 0, 1) := by decide +kernel
theorem dX3_formLine_45 : decode cX3_formLine 45 = .ok (.aload_n 2, 1) := by decide +kernel
theorem dX3_formLine_46 : decode cX3_formLine 46 = .ok (.getfield 173, 3) := by decide +kernel
theorem dX3_formLine_49 : decode cX3_formLine 49 = .ok (.invokevirtual 304, 3) := by decide +kernel
theorem dX3_formLine_52 : decode cX3_formLine 52 = .ok (.aload_n 2, 1) := by decide +kernel
theorem dX3_formLine_53 : decode cX3_formLine 53 = .ok (.invokevirtual 307, 3) := by decide +kernel
theorem dX3_formLine_56 : decode cX3_formLine 56 = .ok (.iinc 1 1, 3) := by decide +kernel
theorem dX3_formLine_59 : decode cX3_formLine 59 = .ok (.goto (-50), 3) := by decide +kernel
theorem dX3_formLine_62 : decode cX3_formLine 62 = .ok (.return_, 1) := by decide +kernel
theorem dX3_placeInLine_0 : decode cX3_placeInLine 0 = .ok (.iconst 0, 1) := by decide +kernel
theorem dX3_placeInLine_1 : decode cX3_placeInLine 1 = .ok (.istore_n 2, 1) := by decide +kernel
theorem dX3_placeInLine_2 : decode cX3_placeInLine 2 = .ok (.iload_n 2, 1) := by decide +kernel
theorem dX3_placeInLine_3 : decode cX3_placeInLine 3 = .ok (.aload_n 0, 1) := by decide +kernel
theorem dX3_placeInLine_4 : decode cX3_placeInLine 4 = .ok (.getfield 34, 3) := by decide +kernel
theorem dX3_placeInLine_7 : decode cX3_placeInLine 7 = .ok (.invokevirtual 65, 3) := by decide +kernel
theorem dX3_placeInLine_10 : decode cX3_placeInLine 10 = .ok (.if_icmp .ge 30, 3) := by decide +kernel
theorem dX3_placeInLine_13 : decode cX3_placeInLine 13 = .ok (.aload_n 1, 1) := by decide +kernel
theorem dX3_placeInLine_14 : decode cX3_placeInLine 14 = .ok (.aload_n 0, 1) := by decide +kernel
theorem dX3_placeInLine_15 : decode cX3_placeInLine 15 = .ok (.getfield 34, 3) := by decide +kernel
theorem dX3_placeInLine_18 : decode cX3_placeInLine 18 = .ok (.iload_n 2, 1) := by decide +kernel
theorem dX3_placeInLine_19 : decode cX3_placeInLine 19 = .ok (.invokevirtual 169, 3) := by decide +kernel
theorem dX3_placeInLine_22 : decode cX3_placeInLine 22 = .ok (.checkcast 112, 3) := by decide +kernel
theorem dX3_placeInLine_25 : decode cX3_placeInLine 25 = .ok (.getfield 173, 3) := by decide +kernel
theorem dX3_placeInLine_28 : decode cX3_placeInLine 28 = .ok (.invokevirtual 310, 3) := by decide +kernel
theorem dX3_placeInLine_31 : decode cX3_placeInLine 31 = .ok (.ifCond .ne 9, 3) := by decide +kernel
theorem dX3_placeInLine_34 : decode cX3_placeInLine 34 = .ok (.iinc 2 1, 3) := by decide +kernel
theorem dX3_placeInLine_37 : decode cX3_placeInLine 37 = .ok (.goto (-35), 3) := by decide +kernel
theorem dX3_placeInLine_40 : decode cX3_placeInLine 40 = .ok (.iload_n 2, 1) := by decide +kernel
theorem dX3_placeInLine_41 : decode cX3_placeInLine 41 = .ok (.ireturn, 1) := by decide +kernel
theorem dX3_firstJob_0 : decode cX3_firstJob 0 = .ok (.iconst 0, 1) := by decide +kernel
theorem dX3_firstJob_1 : decode cX3_firstJob 1 = .ok (.istore_n 2, 1) := by decide +kernel
theorem dX3_firstJob_2 : decode cX3_firstJob 2 = .ok (.iload_n 2, 1) := by decide +kernel
theorem dX3_firstJob_3 : decode cX3_firstJob 3 = .ok (.aload_n 0, 1) := by decide +kernel
theorem dX3_firstJob_4 : decode cX3_firstJob 4 = .ok (.getfield 28, 3) := by decide +kernel
theorem dX3_firstJob_7 : decode cX3_firstJob 7 = .ok (.invokevirtual 65, 3) := by decide +kernel
theorem dX3_firstJob_10 : decode cX3_firstJob 10 = .ok (.if_icmp .ge 40, 3) := by decide +kernel
theorem dX3_firstJob_13 : decode cX3_firstJob 13 = .ok (.aload_n 0, 1) := by decide +kernel
theorem dX3_firstJob_14 : decode cX3_firstJob 14 = .ok (.getfield 28, 3) := by decide +kernel
theorem dX3_firstJob_17 : decode cX3_firstJob 17 = .ok (.iload_n 2, 1) := by decide +kernel
theorem dX3_firstJob_18 : decode cX3_firstJob 18 = .ok (.invokevirtual 169, 3) := by decide +kernel
theorem dX3_firstJob_21 : decode cX3_firstJob 21 = .ok (.checkcast 112, 3) := by decide +kernel
theorem dX3_firstJob_24 : decode cX3_firstJob 24 = .ok (.astore_n 3, 1) := by decide +kernel
theorem dX3_firstJob_25 : decode cX3_firstJob 25 = .ok (.aload_n 3, 1) := by decide +kernel
theorem dX3_firstJob_26 : decode cX3_firstJob 26 = .ok (.getfield 173, 3) := by decide +kernel
theorem dX3_firstJob_29 : decode cX3_firstJob 29 = .ok (.aload_n 1, 1) := by decide +kernel
theorem dX3_firstJob_30 : decode cX3_firstJob 30 = .ok (.if_acmp .ne 14, 3) := by decide +kernel
theorem dX3_firstJob_33 : decode cX3_firstJob 33 = .ok (.aload_n 3, 1) := by decide +kernel
theorem dX3_firstJob_34 : decode cX3_firstJob 34 = .ok (.getfield 122, 3) := by decide +kernel
theorem dX3_firstJob_37 : decode cX3_firstJob 37 = .ok (.bipush 119, 2) := by decide +kernel
theorem dX3_firstJob_39 : decode cX3_firstJob 39 = .ok (.if_icmp .ne 5, 3) := by decide +kernel
theorem dX3_firstJob_42 : decode cX3_firstJob 42 = .ok (.aload_n 3, 1) := by decide +kernel
theorem dX3_firstJob_43 : decode cX3_firstJob 43 = .ok (.areturn, 1) := by decide +kernel
theorem dX3_firstJob_44 : decode cX3_firstJob 44 = .ok (.iinc 2 1, 3) := by decide +kernel
theorem dX3_firstJob_47 : decode cX3_firstJob 47 = .ok (.goto (-45), 3) := by decide +kernel
theorem dX3_firstJob_50 : decode cX3_firstJob 50 = .ok (.aconst_null, 1) := by decide +kernel
theorem dX3_firstJob_51 : decode cX3_firstJob 51 = .ok (.areturn, 1) := by decide +kernel
theorem dX3_canStartOrReclaim_0 : decode cX3_canStartOrReclaim 0 = .ok (.aload_n 0, 1) := by decide +kernel
theorem dX3_canStartOrReclaim_1 : decode cX3_canStartOrReclaim 1 = .ok (.getfield 37, 3) := by decide +kernel
theorem dX3_canStartOrReclaim_4 : decode cX3_canStartOrReclaim 4 = .ok (.invokevirtual 301, 3) := by decide +kernel
theorem dX3_canStartOrReclaim_7 : decode cX3_canStartOrReclaim 7 = .ok (.aload_n 1, 1) := by decide +kernel
theorem dX3_canStartOrReclaim_8 : decode cX3_canStartOrReclaim 8 = .ok (.getfield 173, 3) := by decide +kernel
theorem dX3_canStartOrReclaim_11 : decode cX3_canStartOrReclaim 11 = .ok (.aload_n 1, 1) := by decide +kernel
theorem dX3_canStartOrReclaim_12 : decode cX3_canStartOrReclaim 12 = .ok (.getfield 126, 3) := by decide +kernel
theorem dX3_canStartOrReclaim_15 : decode cX3_canStartOrReclaim 15 = .ok (.invokevirtual 314, 3) := by decide +kernel
theorem dX3_canStartOrReclaim_18 : decode cX3_canStartOrReclaim 18 = .ok (.ifCond .ne 5, 3) := by decide +kernel
theorem dX3_canStartOrReclaim_21 : decode cX3_canStartOrReclaim 21 = .ok (.iconst 0, 1) := by decide +kernel
theorem dX3_canStartOrReclaim_22 : decode cX3_canStartOrReclaim 22 = .ok (.ireturn, 1) := by decide +kernel
theorem dX3_canStartOrReclaim_23 : decode cX3_canStartOrReclaim 23 = .ok (.aload_n 1, 1) := by decide +kernel
theorem dX3_canStartOrReclaim_24 : decode cX3_canStartOrReclaim 24 = .ok (.getfield 126, 3) := by decide +kernel
theorem dX3_canStartOrReclaim_27 : decode cX3_canStartOrReclaim 27 = .ok (.aload_n 0, 1) := by decide +kernel
theorem dX3_canStartOrReclaim_28 : decode cX3_canStartOrReclaim 28 = .ok (.aload_n 1, 1) := by decide +kernel
theorem dX3_canStartOrReclaim_29 : decode cX3_canStartOrReclaim 29 = .ok (.getfield 173, 3) := by decide +kernel
theorem dX3_canStartOrReclaim_32 : decode cX3_canStartOrReclaim 32 = .ok (.invokevirtual 226, 3) := by decide +kernel
theorem dX3_canStartOrReclaim_35 : decode cX3_canStartOrReclaim 35 = .ok (.if_icmp .gt 5, 3) := by decide +kernel
theorem dX3_canStartOrReclaim_38 : decode cX3_canStartOrReclaim 38 = .ok (.iconst 1, 1) := by decide +kernel
theorem dX3_canStartOrReclaim_39 : decode cX3_canStartOrReclaim 39 = .ok (.ireturn, 1) := by decide +kernel
theorem dX3_canStartOrReclaim_40 : decode cX3_canStartOrReclaim 40 = .ok (.aload_n 1, 1) := by decide +kernel
theorem dX3_canStartOrReclaim_41 : decode cX3_canStartOrReclaim 41 = .ok (.getfield 173, 3) := by decide +kernel
theorem dX3_canStartOrReclaim_44 : decode cX3_canStartOrReclaim 44 = .ok (.getfield 98, 3) := by decide +kernel
theorem dX3_canStartOrReclaim_47 : decode cX3_canStartOrReclaim 47 = .ok (.aload_n 1, 1) := by decide +kernel
theorem dX3_canStartOrReclaim_48 : decode cX3_canStartOrReclaim 48 = .ok (.getfield 126, 3) := by decide +kernel
theorem dX3_canStartOrReclaim_51 : decode cX3_canStartOrReclaim 51 = .ok (.iadd, 1) := by decide +kernel
theorem dX3_canStartOrReclaim_52 : decode cX3_canStartOrReclaim 52 = .ok (.aload_n 1, 1) := by decide +kernel
theorem dX3_canStartOrReclaim_53 : decode cX3_canStartOrReclaim 53 = .ok (.getfield 173, 3) := by decide +kernel
theorem dX3_canStartOrReclaim_56 : decode cX3_canStartOrReclaim 56 = .ok (.getfield 223, 3) := by decide +kernel
theorem dX3_canStartOrReclaim_59 : decode cX3_canStartOrReclaim 59 = .ok (.if_icmp .gt 15, 3) := by decide +kernel
theorem dX3_canStartOrReclaim_62 : decode cX3_canStartOrReclaim 62 = .ok (.aload_n 0, 1) := by decide +kernel
theorem dX3_canStartOrReclaim_63 : decode cX3_canStartOrReclaim 63 = .ok (.aload_n 1, 1) := by decide +kernel
theorem dX3_canStartOrReclaim_64 : decode cX3_canStartOrReclaim 64 = .ok (.invokevirtual 318, 3) := by decide +kernel
theorem dX3_canStartOrReclaim_67 : decode cX3_canStartOrReclaim 67 = .ok (.ifCond .eq 7, 3) := by decide +kernel
theorem dX3_canStartOrReclaim_70 : decode cX3_canStartOrReclaim 70 = .ok (.iconst 1, 1) := by decide +kernel
theorem dX3_canStartOrReclaim_71 : decode cX3_canStartOrReclaim 71 = .ok (.goto 4, 3) := by decide +kernel
theorem dX3_canStartOrReclaim_74 : decode cX3_canStartOrReclaim 74 = .ok (.iconst 0, 1) := by decide +kernel
theorem dX3_canStartOrReclaim_75 : decode cX3_canStartOrReclaim 75 = .ok (.ireturn, 1) := by decide +kernel
theorem dX3_findVictims_0 : decode cX3_findVictims 0 = .ok (.iconst 0, 1) := by decide +kernel
theorem dX3_findVictims_1 : decode cX3_findVictims 1 = .ok (.istore_n 2, 1) := by decide +kernel
theorem dX3_findVictims_2 : decode cX3_findVictims 2 = .ok (.iload_n 2, 1) := by decide +kernel
theorem dX3_findVictims_3 : decode cX3_findVictims 3 = .ok (.bipush 40, 2) := by decide +kernel
theorem dX3_findVictims_5 : decode cX3_findVictims 5 = .ok (.if_icmp .ge 53, 3) := by decide +kernel
theorem dX3_findVictims_8 : decode cX3_findVictims 8 = .ok (.aload_n 1, 1) := by decide +kernel
theorem dX3_findVictims_9 : decode cX3_findVictims 9 = .ok (.getfield 126, 3) := by decide +kernel
theorem dX3_findVictims_12 : decode cX3_findVictims 12 = .ok (.aload_n 0, 1) := by decide +kernel
theorem dX3_findVictims_13 : decode cX3_findVictims 13 = .ok (.aload_n 1, 1) := by decide +kernel
theorem dX3_findVictims_14 : decode cX3_findVictims 14 = .ok (.getfield 173, 3) := by decide +kernel
theorem dX3_findVictims_17 : decode cX3_findVictims 17 = .ok (.invokevirtual 226, 3) := by decide +kernel
theorem dX3_findVictims_20 : decode cX3_findVictims 20 = .ok (.if_icmp .le 38, 3) := by decide +kernel
theorem dX3_findVictims_23 : decode cX3_findVictims 23 = .ok (.aload_n 0, 1) := by decide +kernel
theorem dX3_findVictims_24 : decode cX3_findVictims 24 = .ok (.aload_n 1, 1) := by decide +kernel
theorem dX3_findVictims_25 : decode cX3_findVictims 25 = .ok (.getfield 173, 3) := by decide +kernel
theorem dX3_findVictims_28 : decode cX3_findVictims 28 = .ok (.invokevirtual 321, 3) := by decide +kernel
theorem dX3_findVictims_31 : decode cX3_findVictims 31 = .ok (.astore_n 3, 1) := by decide +kernel
theorem dX3_findVictims_32 : decode cX3_findVictims 32 = .ok (.aload_n 3, 1) := by decide +kernel
theorem dX3_findVictims_33 : decode cX3_findVictims 33 = .ok (.ifnonnull 6, 3) := by decide +kernel
theorem dX3_findVictims_36 : decode cX3_findVictims 36 = .ok (.goto 22, 3) := by decide +kernel
theorem dX3_findVictims_39 : decode cX3_findVictims 39 = .ok (.aload_n 3, 1) := by decide +kernel
theorem dX3_findVictims_40 : decode cX3_findVictims 40 = .ok (.invokevirtual 128, 3) := by decide +kernel
theorem dX3_findVictims_43 : decode cX3_findVictims 43 = .ok (.aload_n 0, 1) := by decide +kernel
theorem dX3_findVictims_44 : decode cX3_findVictims 44 = .ok (.getfield 37, 3) := by decide +kernel
theorem dX3_findVictims_47 : decode cX3_findVictims 47 = .ok (.aload_n 3, 1) := by decide +kernel
theorem dX3_findVictims_48 : decode cX3_findVictims 48 = .ok (.invokevirtual 53, 3) := by decide +kernel
theorem dX3_findVictims_51 : decode cX3_findVictims 51 = .ok (.pop, 1) := by decide +kernel
theorem dX3_findVictims_52 : decode cX3_findVictims 52 = .ok (.iinc 2 1, 3) := by decide +kernel
theorem dX3_findVictims_55 : decode cX3_findVictims 55 = .ok (.goto (-53), 3) := by decide +kernel
theorem dX3_findVictims_58 : decode cX3_findVictims 58 = .ok (.aload_n 1, 1) := by decide +kernel
theorem dX3_findVictims_59 : decode cX3_findVictims 59 = .ok (.getfield 126, 3) := by decide +kernel
theorem dX3_findVictims_62 : decode cX3_findVictims 62 = .ok (.aload_n 0, 1) := by decide +kernel
theorem dX3_findVictims_63 : decode cX3_findVictims 63 = .ok (.aload_n 1, 1) := by decide +kernel
theorem dX3_findVictims_64 : decode cX3_findVictims 64 = .ok (.getfield 173, 3) := by decide +kernel
theorem dX3_findVictims_67 : decode cX3_findVictims 67 = .ok (.invokevirtual 226, 3) := by decide +kernel
theorem dX3_findVictims_70 : decode cX3_findVictims 70 = .ok (.if_icmp .gt 7, 3) := by decide +kernel
theorem dX3_findVictims_73 : decode cX3_findVictims 73 = .ok (.iconst 1, 1) := by decide +kernel
theorem dX3_findVictims_74 : decode cX3_findVictims 74 = .ok (.goto 4, 3) := by decide +kernel
theorem dX3_findVictims_77 : decode cX3_findVictims 77 = .ok (.iconst 0, 1) := by decide +kernel
theorem dX3_findVictims_78 : decode cX3_findVictims 78 = .ok (.istore_n 2, 1) := by decide +kernel
theorem dX3_findVictims_79 : decode cX3_findVictims 79 = .ok (.iconst 0, 1) := by decide +kernel
theorem dX3_findVictims_80 : decode cX3_findVictims 80 = .ok (.istore_n 3, 1) := by decide +kernel
theorem dX3_findVictims_81 : decode cX3_findVictims 81 = .ok (.iload_n 3, 1) := by decide +kernel
theorem dX3_findVictims_82 : decode cX3_findVictims 82 = .ok (.aload_n 0, 1) := by decide +kernel
theorem dX3_findVictims_83 : decode cX3_findVictims 83 = .ok (.getfield 37, 3) := by decide +kernel
theorem dX3_findVictims_86 : decode cX3_findVictims 86 = .ok (.invokevirtual 65, 3) := by decide +kernel
theorem dX3_findVictims_89 : decode cX3_findVictims 89 = .ok (.if_icmp .ge 23, 3) := by decide +kernel
theorem dX3_findVictims_92 : decode cX3_findVictims 92 = .ok (.aload_n 0, 1) := by decide +kernel
theorem dX3_findVictims_93 : decode cX3_findVictims 93 = .ok (.getfield 37, 3) := by decide +kernel
theorem dX3_findVictims_96 : decode cX3_findVictims 96 = .ok (.iload_n 3, 1) := by decide +kernel
theorem dX3_findVictims_97 : decode cX3_findVictims 97 = .ok (.invokevirtual 169, 3) := by decide +kernel
theorem dX3_findVictims_100 : decode cX3_findVictims 100 = .ok (.checkcast 112, 3) := by decide +kernel
theorem dX3_findVictims_103 : decode cX3_findVictims 103 = .ok (.invokevirtual 295, 3) := by decide +kernel
theorem dX3_findVictims_106 : decode cX3_findVictims 106 = .ok (.iinc 3 1, 3) := by decide +kernel
theorem dX3_findVictims_109 : decode cX3_findVictims 109 = .ok (.goto (-28), 3) := by decide +kernel
theorem dX3_findVictims_112 : decode cX3_findVictims 112 = .ok (.iload_n 2, 1) := by decide +kernel
theorem dX3_findVictims_113 : decode cX3_findVictims 113 = .ok (.ireturn, 1) := by decide +kernel
theorem dX3_youngestBorrower_0 : decode cX3_youngestBorrower 0 = .ok (.aconst_null, 1) := by decide +kernel
theorem dX3_youngestBorrower_1 : decode cX3_youngestBorrower 1 = .ok (.astore_n 2, 1) := by decide +kernel
theorem dX3_youngestBorrower_2 : decode cX3_youngestBorrower 2 = .ok (.iconst 0, 1) := by decide +kernel
theorem dX3_youngestBorrower_3 : decode cX3_youngestBorrower 3 = .ok (.istore_n 3, 1) := by decide +kernel
theorem dX3_youngestBorrower_4 : decode cX3_youngestBorrower 4 = .ok (.iload_n 3, 1) := by decide +kernel
theorem dX3_youngestBorrower_5 : decode cX3_youngestBorrower 5 = .ok (.aload_n 0, 1) := by decide +kernel
theorem dX3_youngestBorrower_6 : decode cX3_youngestBorrower 6 = .ok (.getfield 28, 3) := by decide +kernel
theorem dX3_youngestBorrower_9 : decode cX3_youngestBorrower 9 = .ok (.invokevirtual 65, 3) := by decide +kernel
theorem dX3_youngestBorrower_12 : decode cX3_youngestBorrower 12 = .ok (.if_icmp .ge 79, 3) := by decide +kernel
theorem dX3_youngestBorrower_15 : decode cX3_youngestBorrower 15 = .ok (.aload_n 0, 1) := by decide +kernel
theorem dX3_youngestBorrower_16 : decode cX3_youngestBorrower 16 = .ok (.getfield 28, 3) := by decide +kernel
theorem dX3_youngestBorrower_19 : decode cX3_youngestBorrower 19 = .ok (.iload_n 3, 1) := by decide +kernel
theorem dX3_youngestBorrower_20 : decode cX3_youngestBorrower 20 = .ok (.invokevirtual 169, 3) := by decide +kernel
theorem dX3_youngestBorrower_23 : decode cX3_youngestBorrower 23 = .ok (.checkcast 112, 3) := by decide +kernel
theorem dX3_youngestBorrower_26 : decode cX3_youngestBorrower 26 = .ok (.astore 4, 2) := by decide +kernel
theorem dX3_youngestBorrower_28 : decode cX3_youngestBorrower 28 = .ok (.aload 4, 2) := by decide +kernel
theorem dX3_youngestBorrower_30 : decode cX3_youngestBorrower 30 = .ok (.getfield 122, 3) := by decide +kernel
theorem dX3_youngestBorrower_33 : decode cX3_youngestBorrower 33 = .ok (.bipush 114, 2) := by decide +kernel
theorem dX3_youngestBorrower_35 : decode cX3_youngestBorrower 35 = .ok (.if_icmp .ne 50, 3) := by decide +kernel
theorem dX3_youngestBorrower_38 : decode cX3_youngestBorrower 38 = .ok (.aload 4, 2) := by decide +kernel
theorem dX3_youngestBorrower_40 : decode cX3_youngestBorrower 40 = .ok (.getfield 173, 3) := by decide +kernel
theorem dX3_youngestBorrower_43 : decode cX3_youngestBorrower 43 = .ok (.aload_n 1, 1) := by decide +kernel
theorem dX3_youngestBorrower_44 : decode cX3_youngestBorrower 44 = .ok (.if_acmp .eq 41, 3) := by decide +kernel
theorem dX3_youngestBorrower_47 : decode cX3_youngestBorrower 47 = .ok (.aload 4, 2) := by decide +kernel
theorem dX3_youngestBorrower_49 : decode cX3_youngestBorrower 49 = .ok (.getfield 173, 3) := by decide +kernel
theorem dX3_youngestBorrower_52 : decode cX3_youngestBorrower 52 = .ok (.getfield 98, 3) := by decide +kernel
theorem dX3_youngestBorrower_55 : decode cX3_youngestBorrower 55 = .ok (.aload 4, 2) := by decide +kernel
theorem dX3_youngestBorrower_57 : decode cX3_youngestBorrower 57 = .ok (.getfield 173, 3) := by decide +kernel
theorem dX3_youngestBorrower_60 : decode cX3_youngestBorrower 60 = .ok (.getfield 223, 3) := by decide +kernel
theorem dX3_youngestBorrower_63 : decode cX3_youngestBorrower 63 = .ok (.if_icmp .le 22, 3) := by decide +kernel
theorem dX3_youngestBorrower_66 : decode cX3_youngestBorrower 66 = .ok (.aload_n 2, 1) := by decide +kernel
theorem dX3_youngestBorrower_67 : decode cX3_youngestBorrower 67 = .ok (.ifnull 15, 3) := by decide +kernel
theorem dX3_youngestBorrower_70 : decode cX3_youngestBorrower 70 = .ok (.aload 4, 2) := by decide +kernel
theorem dX3_youngestBorrower_72 : decode cX3_youngestBorrower 72 = .ok (.getfield 298, 3) := by decide +kernel
theorem dX3_youngestBorrower_75 : decode cX3_youngestBorrower 75 = .ok (.aload_n 2, 1) := by decide +kernel
theorem dX3_youngestBorrower_76 : decode cX3_youngestBorrower 76 = .ok (.getfield 298, 3) := by decide +kernel
theorem dX3_youngestBorrower_79 : decode cX3_youngestBorrower 79 = .ok (.if_icmp .le 6, 3) := by decide +kernel
theorem dX3_youngestBorrower_82 : decode cX3_youngestBorrower 82 = .ok (.aload 4, 2) := by decide +kernel
theorem dX3_youngestBorrower_84 : decode cX3_youngestBorrower 84 = .ok (.astore_n 2, 1) := by decide +kernel
theorem dX3_youngestBorrower_85 : decode cX3_youngestBorrower 85 = .ok (.iinc 3 1, 3) := by decide +kernel
theorem dX3_youngestBorrower_88 : decode cX3_youngestBorrower 88 = .ok (.goto (-84), 3) := by decide +kernel
theorem dX3_youngestBorrower_91 : decode cX3_youngestBorrower 91 = .ok (.aload_n 2, 1) := by decide +kernel
theorem dX3_youngestBorrower_92 : decode cX3_youngestBorrower 92 = .ok (.areturn, 1) := by decide +kernel
theorem dX3_freeUnits_0 : decode cX3_freeUnits 0 = .ok (.aload_n 0, 1) := by decide +kernel
theorem dX3_freeUnits_1 : decode cX3_freeUnits 1 = .ok (.getfield 40, 3) := by decide +kernel
theorem dX3_freeUnits_4 : decode cX3_freeUnits 4 = .ok (.aload_n 0, 1) := by decide +kernel
theorem dX3_freeUnits_5 : decode cX3_freeUnits 5 = .ok (.getfield 21, 3) := by decide +kernel
theorem dX3_freeUnits_8 : decode cX3_freeUnits 8 = .ok (.getfield 98, 3) := by decide +kernel
theorem dX3_freeUnits_11 : decode cX3_freeUnits 11 = .ok (.isub, 1) := by decide +kernel
theorem dX3_freeUnits_12 : decode cX3_freeUnits 12 = .ok (.istore_n 2, 1) := by decide +kernel
theorem dX3_freeUnits_13 : decode cX3_freeUnits 13 = .ok (.iconst 0, 1) := by decide +kernel
theorem dX3_freeUnits_14 : decode cX3_freeUnits 14 = .ok (.istore_n 3, 1) := by decide +kernel
theorem dX3_freeUnits_15 : decode cX3_freeUnits 15 = .ok (.iload_n 3, 1) := by decide +kernel
theorem dX3_freeUnits_16 : decode cX3_freeUnits 16 = .ok (.aload_n 0, 1) := by decide +kernel
theorem dX3_freeUnits_17 : decode cX3_freeUnits 17 = .ok (.getfield 10, 3) := by decide +kernel
theorem dX3_freeUnits_20 : decode cX3_freeUnits 20 = .ok (.invokevirtual 65, 3) := by decide +kernel
theorem dX3_freeUnits_23 : decode cX3_freeUnits 23 = .ok (.if_icmp .ge 55, 3) := by decide +kernel
theorem dX3_freeUnits_26 : decode cX3_freeUnits 26 = .ok (.aload_n 0, 1) := by decide +kernel
theorem dX3_freeUnits_27 : decode cX3_freeUnits 27 = .ok (.getfield 10, 3) := by decide +kernel
theorem dX3_freeUnits_30 : decode cX3_freeUnits 30 = .ok (.iload_n 3, 1) := by decide +kernel
theorem dX3_freeUnits_31 : decode cX3_freeUnits 31 = .ok (.invokevirtual 169, 3) := by decide +kernel
theorem dX3_freeUnits_34 : decode cX3_freeUnits 34 = .ok (.checkcast 16, 3) := by decide +kernel
theorem dX3_freeUnits_37 : decode cX3_freeUnits 37 = .ok (.astore 4, 2) := by decide +kernel
theorem dX3_freeUnits_39 : decode cX3_freeUnits 39 = .ok (.aload 4, 2) := by decide +kernel
theorem dX3_freeUnits_41 : decode cX3_freeUnits 41 = .ok (.aload_n 1, 1) := by decide +kernel
theorem dX3_freeUnits_42 : decode cX3_freeUnits 42 = .ok (.if_acmp .eq 30, 3) := by decide +kernel
theorem dX3_freeUnits_45 : decode cX3_freeUnits 45 = .ok (.aload 4, 2) := by decide +kernel
theorem dX3_freeUnits_47 : decode cX3_freeUnits 47 = .ok (.getfield 199, 3) := by decide +kernel
theorem dX3_freeUnits_50 : decode cX3_freeUnits 50 = .ok (.aload 4, 2) := by decide +kernel
theorem dX3_freeUnits_52 : decode cX3_freeUnits 52 = .ok (.getfield 98, 3) := by decide +kernel
theorem dX3_freeUnits_55 : decode cX3_freeUnits 55 = .ok (.if_icmp .le 17, 3) := by decide +kernel
theorem dX3_freeUnits_58 : decode cX3_freeUnits 58 = .ok (.iload_n 2, 1) := by decide +kernel
theorem dX3_freeUnits_59 : decode cX3_freeUnits 59 = .ok (.aload 4, 2) := by decide +kernel
theorem dX3_freeUnits_61 : decode cX3_freeUnits 61 = .ok (.getfield 199, 3) := by decide +kernel
theorem dX3_freeUnits_64 : decode cX3_freeUnits 64 = .ok (.aload 4, 2) := by decide +kernel
theorem dX3_freeUnits_66 : decode cX3_freeUnits 66 = .ok (.getfield 98, 3) := by decide +kernel
theorem dX3_freeUnits_69 : decode cX3_freeUnits 69 = .ok (.isub, 1) := by decide +kernel
theorem dX3_freeUnits_70 : decode cX3_freeUnits 70 = .ok (.isub, 1) := by decide +kernel
theorem dX3_freeUnits_71 : decode cX3_freeUnits 71 = .ok (.istore_n 2, 1) := by decide +kernel
theorem dX3_freeUnits_72 : decode cX3_freeUnits 72 = .ok (.iinc 3 1, 3) := by decide +kernel
theorem dX3_freeUnits_75 : decode cX3_freeUnits 75 = .ok (.goto (-60), 3) := by decide +kernel
theorem dX3_freeUnits_78 : decode cX3_freeUnits 78 = .ok (.iload_n 2, 1) := by decide +kernel
theorem dX3_freeUnits_79 : decode cX3_freeUnits 79 = .ok (.ireturn, 1) := by decide +kernel
theorem dX3_reservationFor_0 : decode cX3_reservationFor 0 = .ok (.iconst 0, 1) := by decide +kernel
theorem dX3_reservationFor_1 : decode cX3_reservationFor 1 = .ok (.istore 4, 2) := by decide +kernel
theorem dX3_reservationFor_3 : decode cX3_reservationFor 3 = .ok (.iload 4, 2) := by decide +kernel
theorem dX3_reservationFor_5 : decode cX3_reservationFor 5 = .ok (.aload_n 0, 1) := by decide +kernel
theorem dX3_reservationFor_6 : decode cX3_reservationFor 6 = .ok (.getfield 31, 3) := by decide +kernel
theorem dX3_reservationFor_9 : decode cX3_reservationFor 9 = .ok (.invokevirtual 65, 3) := by decide +kernel
theorem dX3_reservationFor_12 : decode cX3_reservationFor 12 = .ok (.if_icmp .ge 56, 3) := by decide +kernel
theorem dX3_reservationFor_15 : decode cX3_reservationFor 15 = .ok (.aload_n 0, 1) := by decide +kernel
theorem dX3_reservationFor_16 : decode cX3_reservationFor 16 = .ok (.getfield 31, 3) := by decide +kernel
theorem dX3_reservationFor_19 : decode cX3_reservationFor 19 = .ok (.iload 4, 2) := by decide +kernel
theorem dX3_reservationFor_21 : decode cX3_reservationFor 21 = .ok (.invokevirtual 169, 3) := by decide +kernel
theorem dX3_reservationFor_24 : decode cX3_reservationFor 24 = .ok (.checkcast 181, 3) := by decide +kernel
theorem dX3_reservationFor_27 : decode cX3_reservationFor 27 = .ok (.astore 5, 2) := by decide +kernel
theorem dX3_reservationFor_29 : decode cX3_reservationFor 29 = .ok (.aload 5, 2) := by decide +kernel
theorem dX3_reservationFor_31 : decode cX3_reservationFor 31 = .ok (.getfield 324, 3) := by decide +kernel
theorem dX3_reservationFor_34 : decode cX3_reservationFor 34 = .ok (.getfield 86, 3) := by decide +kernel
theorem dX3_reservationFor_37 : decode cX3_reservationFor 37 = .ok (.iload_n 1, 1) := by decide +kernel
theorem dX3_reservationFor_38 : decode cX3_reservationFor 38 = .ok (.if_icmp .ne 24, 3) := by decide +kernel
theorem dX3_reservationFor_41 : decode cX3_reservationFor 41 = .ok (.aload 5, 2) := by decide +kernel
theorem dX3_reservationFor_43 : decode cX3_reservationFor 43 = .ok (.getfield 325, 3) := by decide +kernel
theorem dX3_reservationFor_46 : decode cX3_reservationFor 46 = .ok (.iload_n 2, 1) := by decide +kernel
theorem dX3_reservationFor_47 : decode cX3_reservationFor 47 = .ok (.if_icmp .ne 15, 3) := by decide +kernel
theorem dX3_reservationFor_50 : decode cX3_reservationFor 50 = .ok (.aload 5, 2) := by decide +kernel
theorem dX3_reservationFor_52 : decode cX3_reservationFor 52 = .ok (.getfield 328, 3) := by decide +kernel
theorem dX3_reservationFor_55 : decode cX3_reservationFor 55 = .ok (.iload_n 3, 1) := by decide +kernel
theorem dX3_reservationFor_56 : decode cX3_reservationFor 56 = .ok (.if_icmp .ne 6, 3) := by decide +kernel
theorem dX3_reservationFor_59 : decode cX3_reservationFor 59 = .ok (.aload 5, 2) := by decide +kernel
theorem dX3_reservationFor_61 : decode cX3_reservationFor 61 = .ok (.areturn, 1) := by decide +kernel
theorem dX3_reservationFor_62 : decode cX3_reservationFor 62 = .ok (.iinc 4 1, 3) := by decide +kernel
theorem dX3_reservationFor_65 : decode cX3_reservationFor 65 = .ok (.goto (-62), 3) := by decide +kernel
theorem dX3_reservationFor_68 : decode cX3_reservationFor 68 = .ok (.aconst_null, 1) := by decide +kernel
theorem dX3_reservationFor_69 : decode cX3_reservationFor 69 = .ok (.areturn, 1) := by decide +kernel
theorem dX3_forgetReservation_0 : decode cX3_forgetReservation 0 = .ok (.aload_n 0, 1) := by decide +kernel
theorem dX3_forgetReservation_1 : decode cX3_forgetReservation 1 = .ok (.getfield 31, 3) := by decide +kernel
theorem dX3_forgetReservation_4 : decode cX3_forgetReservation 4 = .ok (.invokevirtual 65, 3) := by decide +kernel
theorem dX3_forgetReservation_7 : decode cX3_forgetReservation 7 = .ok (.iconst 1, 1) := by decide +kernel
theorem dX3_forgetReservation_8 : decode cX3_forgetReservation 8 = .ok (.isub, 1) := by decide +kernel
theorem dX3_forgetReservation_9 : decode cX3_forgetReservation 9 = .ok (.istore_n 2, 1) := by decide +kernel
theorem dX3_forgetReservation_10 : decode cX3_forgetReservation 10 = .ok (.iload_n 2, 1) := by decide +kernel
theorem dX3_forgetReservation_11 : decode cX3_forgetReservation 11 = .ok (.ifCond .lt 30, 3) := by decide +kernel
theorem dX3_forgetReservation_14 : decode cX3_forgetReservation 14 = .ok (.aload_n 0, 1) := by decide +kernel
theorem dX3_forgetReservation_15 : decode cX3_forgetReservation 15 = .ok (.getfield 31, 3) := by decide +kernel
theorem dX3_forgetReservation_18 : decode cX3_forgetReservation 18 = .ok (.iload_n 2, 1) := by decide +kernel
theorem dX3_forgetReservation_19 : decode cX3_forgetReservation 19 = .ok (.invokevirtual 169, 3) := by decide +kernel
theorem dX3_forgetReservation_22 : decode cX3_forgetReservation 22 = .ok (.aload_n 1, 1) := by decide +kernel
theorem dX3_forgetReservation_23 : decode cX3_forgetReservation 23 = .ok (.if_acmp .ne 12, 3) := by decide +kernel
theorem dX3_forgetReservation_26 : decode cX3_forgetReservation 26 = .ok (.aload_n 0, 1) := by decide +kernel
theorem dX3_forgetReservation_27 : decode cX3_forgetReservation 27 = .ok (.getfield 31, 3) := by decide +kernel
theorem dX3_forgetReservation_30 : decode cX3_forgetReservation 30 = .ok (.iload_n 2, 1) := by decide +kernel
theorem dX3_forgetReservation_31 : decode cX3_forgetReservation 31 = .ok (.invokevirtual 277, 3) := by decide +kernel
theorem dX3_forgetReservation_34 : decode cX3_forgetReservation 34 = .ok (.pop, 1) := by decide +kernel
theorem dX3_forgetReservation_35 : decode cX3_forgetReservation 35 = .ok (.iinc 2 (-1), 3) := by decide +kernel
theorem dX3_forgetReservation_38 : decode cX3_forgetReservation 38 = .ok (.goto (-28), 3) := by decide +kernel
theorem dX3_forgetReservation_41 : decode cX3_forgetReservation 41 = .ok (.return_, 1) := by decide +kernel
theorem dX3_reckonHeldUnits_0 : decode cX3_reckonHeldUnits 0 = .ok (.iconst 0, 1) := by decide +kernel
theorem dX3_reckonHeldUnits_1 : decode cX3_reckonHeldUnits 1 = .ok (.istore_n 1, 1) := by decide +kernel
theorem dX3_reckonHeldUnits_2 : decode cX3_reckonHeldUnits 2 = .ok (.iload_n 1, 1) := by decide +kernel
theorem dX3_reckonHeldUnits_3 : decode cX3_reckonHeldUnits 3 = .ok (.aload_n 0, 1) := by decide +kernel
theorem dX3_reckonHeldUnits_4 : decode cX3_reckonHeldUnits 4 = .ok (.getfield 10, 3) := by decide +kernel
theorem dX3_reckonHeldUnits_7 : decode cX3_reckonHeldUnits 7 = .ok (.invokevirtual 65, 3) := by decide +kernel
theorem dX3_reckonHeldUnits_10 : decode cX3_reckonHeldUnits 10 = .ok (.if_icmp .ge 24, 3) := by decide +kernel
theorem dX3_reckonHeldUnits_13 : decode cX3_reckonHeldUnits 13 = .ok (.aload_n 0, 1) := by decide +kernel
theorem dX3_reckonHeldUnits_14 : decode cX3_reckonHeldUnits 14 = .ok (.getfield 10, 3) := by decide +kernel
theorem dX3_reckonHeldUnits_17 : decode cX3_reckonHeldUnits 17 = .ok (.iload_n 1, 1) := by decide +kernel
theorem dX3_reckonHeldUnits_18 : decode cX3_reckonHeldUnits 18 = .ok (.invokevirtual 169, 3) := by decide +kernel
theorem dX3_reckonHeldUnits_21 : decode cX3_reckonHeldUnits 21 = .ok (.checkcast 16, 3) := by decide +kernel
theorem dX3_reckonHeldUnits_24 : decode cX3_reckonHeldUnits 24 = .ok (.iconst 0, 1) := by decide +kernel
theorem dX3_reckonHeldUnits_25 : decode cX3_reckonHeldUnits 25 = .ok (.putfield 199, 3) := by decide +kernel
theorem dX3_reckonHeldUnits_28 : decode cX3_reckonHeldUnits 28 = .ok (.iinc 1 1, 3) := by decide +kernel
theorem dX3_reckonHeldUnits_31 : decode cX3_reckonHeldUnits 31 = .ok (.goto (-29), 3) := by decide +kernel
theorem dX3_reckonHeldUnits_34 : decode cX3_reckonHeldUnits 34 = .ok (.iconst 0, 1) := by decide +kernel
theorem dX3_reckonHeldUnits_35 : decode cX3_reckonHeldUnits 35 = .ok (.istore_n 1, 1) := by decide +kernel
theorem dX3_reckonHeldUnits_36 : decode cX3_reckonHeldUnits 36 = .ok (.iload_n 1, 1) := by decide +kernel
theorem dX3_reckonHeldUnits_37 : decode cX3_reckonHeldUnits 37 = .ok (.aload_n 0, 1) := by decide +kernel
theorem dX3_reckonHeldUnits_38 : decode cX3_reckonHeldUnits 38 = .ok (.getfield 31, 3) := by decide +kernel
theorem dX3_reckonHeldUnits_41 : decode cX3_reckonHeldUnits 41 = .ok (.invokevirtual 65, 3) := by decide +kernel
theorem dX3_reckonHeldUnits_44 : decode cX3_reckonHeldUnits 44 = .ok (.if_icmp .ge 59, 3) := by decide +kernel
theorem dX3_reckonHeldUnits_47 : decode cX3_reckonHeldUnits 47 = .ok (.aload_n 0, 1) := by decide +kernel
theorem dX3_reckonHeldUnits_48 : decode cX3_reckonHeldUnits 48 = .ok (.getfield 31, 3) := by decide +kernel
theorem dX3_reckonHeldUnits_51 : decode cX3_reckonHeldUnits 51 = .ok (.iload_n 1, 1) := by decide +kernel
theorem dX3_reckonHeldUnits_52 : decode cX3_reckonHeldUnits 52 = .ok (.invokevirtual 169, 3) := by decide +kernel
theorem dX3_reckonHeldUnits_55 : decode cX3_reckonHeldUnits 55 = .ok (.checkcast 181, 3) := by decide +kernel
theorem dX3_reckonHeldUnits_58 : decode cX3_reckonHeldUnits 58 = .ok (.astore_n 2, 1) := by decide +kernel
theorem dX3_reckonHeldUnits_59 : decode cX3_reckonHeldUnits 59 = .ok (.aload_n 2, 1) := by decide +kernel
theorem dX3_reckonHeldUnits_60 : decode cX3_reckonHeldUnits 60 = .ok (.getfield 325, 3) := by decide +kernel
theorem dX3_reckonHeldUnits_63 : decode cX3_reckonHeldUnits 63 = .ok (.aload_n 0, 1) := by decide +kernel
theorem dX3_reckonHeldUnits_64 : decode cX3_reckonHeldUnits 64 = .ok (.getfield 47, 3) := by decide +kernel
theorem dX3_reckonHeldUnits_67 : decode cX3_reckonHeldUnits 67 = .ok (.if_icmp .gt 30, 3) := by decide +kernel
theorem dX3_reckonHeldUnits_70 : decode cX3_reckonHeldUnits 70 = .ok (.aload_n 0, 1) := by decide +kernel
theorem dX3_reckonHeldUnits_71 : decode cX3_reckonHeldUnits 71 = .ok (.getfield 47, 3) := by decide +kernel
theorem dX3_reckonHeldUnits_74 : decode cX3_reckonHeldUnits 74 = .ok (.aload_n 2, 1) := by decide +kernel
theorem dX3_reckonHeldUnits_75 : decode cX3_reckonHeldUnits 75 = .ok (.getfield 328, 3) := by decide +kernel
theorem dX3_reckonHeldUnits_78 : decode cX3_reckonHeldUnits 78 = .ok (.if_icmp .ge 19, 3) := by decide +kernel
theorem dX3_reckonHeldUnits_81 : decode cX3_reckonHeldUnits 81 = .ok (.aload_n 2, 1) := by decide +kernel
theorem dX3_reckonHeldUnits_82 : decode cX3_reckonHeldUnits 82 = .ok (.getfield 324, 3) := by decide +kernel
theorem dX3_reckonHeldUnits_85 : decode cX3_reckonHeldUnits 85 = .ok (.dup, 1) := by decide +kernel
theorem dX3_reckonHeldUnits_86 : decode cX3_reckonHeldUnits 86 = .ok (.getfield 199, 3) := by decide +kernel
theorem dX3_reckonHeldUnits_89 : decode cX3_reckonHeldUnits 89 = .ok (.aload_n 2, 1) := by decide +kernel
theorem dX3_reckonHeldUnits_90 : decode cX3_reckonHeldUnits 90 = .ok (.getfield 180, 3) := by decide +kernel
theorem dX3_reckonHeldUnits_93 : decode cX3_reckonHeldUnits 93 = .ok (.iadd, 1) := by decide +kernel
theorem dX3_reckonHeldUnits_94 : decode cX3_reckonHeldUnits 94 = .ok (.putfield 199, 3) := by decide +kernel
theorem dX3_reckonHeldUnits_97 : decode cX3_reckonHeldUnits 97 = .ok (.iinc 1 1, 3) := by decide +kernel
theorem dX3_reckonHeldUnits_100 : decode cX3_reckonHeldUnits 100 = .ok (.goto (-64), 3) := by decide +kernel
theorem dX3_reckonHeldUnits_103 : decode cX3_reckonHeldUnits 103 = .ok (.return_, 1) := by decide +kernel
theorem dX3_reckonDues_0 : decode cX3_reckonDues 0 = .ok (.aload_n 0, 1) := by decide +kernel
theorem dX3_reckonDues_1 : decode cX3_reckonDues 1 = .ok (.invokevirtual 202, 3) := by decide +kernel
theorem dX3_reckonDues_4 : decode cX3_reckonDues 4 = .ok (.aload_n 0, 1) := by decide +kernel
theorem dX3_reckonDues_5 : decode cX3_reckonDues 5 = .ok (.invokevirtual 208, 3) := by decide +kernel
theorem dX3_reckonDues_8 : decode cX3_reckonDues 8 = .ok (.aload_n 0, 1) := by decide +kernel
theorem dX3_reckonDues_9 : decode cX3_reckonDues 9 = .ok (.invokevirtual 196, 3) := by decide +kernel
theorem dX3_reckonDues_12 : decode cX3_reckonDues 12 = .ok (.iconst 0, 1) := by decide +kernel
theorem dX3_reckonDues_13 : decode cX3_reckonDues 13 = .ok (.istore_n 1, 1) := by decide +kernel
theorem dX3_reckonDues_14 : decode cX3_reckonDues 14 = .ok (.iload_n 1, 1) := by decide +kernel
theorem dX3_reckonDues_15 : decode cX3_reckonDues 15 = .ok (.aload_n 0, 1) := by decide +kernel
theorem dX3_reckonDues_16 : decode cX3_reckonDues 16 = .ok (.getfield 10, 3) := by decide +kernel
theorem dX3_reckonDues_19 : decode cX3_reckonDues 19 = .ok (.invokevirtual 65, 3) := by decide +kernel
theorem dX3_reckonDues_22 : decode cX3_reckonDues 22 = .ok (.if_icmp .ge 36, 3) := by decide +kernel
theorem dX3_reckonDues_25 : decode cX3_reckonDues 25 = .ok (.aload_n 0, 1) := by decide +kernel
theorem dX3_reckonDues_26 : decode cX3_reckonDues 26 = .ok (.getfield 10, 3) := by decide +kernel
theorem dX3_reckonDues_29 : decode cX3_reckonDues 29 = .ok (.iload_n 1, 1) := by decide +kernel
theorem dX3_reckonDues_30 : decode cX3_reckonDues 30 = .ok (.invokevirtual 169, 3) := by decide +kernel
theorem dX3_reckonDues_33 : decode cX3_reckonDues 33 = .ok (.checkcast 16, 3) := by decide +kernel
theorem dX3_reckonDues_36 : decode cX3_reckonDues 36 = .ok (.astore_n 2, 1) := by decide +kernel
theorem dX3_reckonDues_37 : decode cX3_reckonDues 37 = .ok (.aload_n 2, 1) := by decide +kernel
theorem dX3_reckonDues_38 : decode cX3_reckonDues 38 = .ok (.aload_n 2, 1) := by decide +kernel
theorem dX3_reckonDues_39 : decode cX3_reckonDues 39 = .ok (.getfield 211, 3) := by decide +kernel
theorem dX3_reckonDues_42 : decode cX3_reckonDues 42 = .ok (.aload_n 2, 1) := by decide +kernel
theorem dX3_reckonDues_43 : decode cX3_reckonDues 43 = .ok (.getfield 199, 3) := by decide +kernel
theorem dX3_reckonDues_46 : decode cX3_reckonDues 46 = .ok (.invokestatic 331, 3) := by decide +kernel
theorem dX3_reckonDues_49 : decode cX3_reckonDues 49 = .ok (.putfield 223, 3) := by decide +kernel
theorem dX3_reckonDues_52 : decode cX3_reckonDues 52 = .ok (.iinc 1 1, 3) := by decide +kernel
theorem dX3_reckonDues_55 : decode cX3_reckonDues 55 = .ok (.goto (-41), 3) := by decide +kernel
theorem dX3_reckonDues_58 : decode cX3_reckonDues 58 = .ok (.return_, 1) := by decide +kernel
theorem dX3_reckonDemands_0 : decode cX3_reckonDemands 0 = .ok (.iconst 0, 1) := by decide +kernel
theorem dX3_reckonDemands_1 : decode cX3_reckonDemands 1 = .ok (.istore_n 1, 1) := by decide +kernel
theorem dX3_reckonDemands_2 : decode cX3_reckonDemands 2 = .ok (.iload_n 1, 1) := by decide +kernel
theorem dX3_reckonDemands_3 : decode cX3_reckonDemands 3 = .ok (.aload_n 0, 1) := by decide +kernel
theorem dX3_reckonDemands_4 : decode cX3_reckonDemands 4 = .ok (.getfield 10, 3) := by decide +kernel
theorem dX3_reckonDemands_7 : decode cX3_reckonDemands 7 = .ok (.invokevirtual 65, 3) := by decide +kernel
theorem dX3_reckonDemands_10 : decode cX3_reckonDemands 10 = .ok (.if_icmp .ge 24, 3) := by decide +kernel
theorem dX3_reckonDemands_13 : decode cX3_reckonDemands 13 = .ok (.aload_n 0, 1) := by decide +kernel
theorem dX3_reckonDemands_14 : decode cX3_reckonDemands 14 = .ok (.getfield 10, 3) := by decide +kernel
theorem dX3_reckonDemands_17 : decode cX3_reckonDemands 17 = .ok (.iload_n 1, 1) := by decide +kernel
theorem dX3_reckonDemands_18 : decode cX3_reckonDemands 18 = .ok (.invokevirtual 169, 3) := by decide +kernel
theorem dX3_reckonDemands_21 : decode cX3_reckonDemands 21 = .ok (.checkcast 16, 3) := by decide +kernel
theorem dX3_reckonDemands_24 : decode cX3_reckonDemands 24 = .ok (.iconst 0, 1) := by decide +kernel
theorem dX3_reckonDemands_25 : decode cX3_reckonDemands 25 = .ok (.putfield 205, 3) := by decide +kernel
theorem dX3_reckonDemands_28 : decode cX3_reckonDemands 28 = .ok (.iinc 1 1, 3) := by decide +kernel
theorem dX3_reckonDemands_31 : decode cX3_reckonDemands 31 = .ok (.goto (-29), 3) := by decide +kernel
theorem dX3_reckonDemands_34 : decode cX3_reckonDemands 34 = .ok (.iconst 0, 1) := by decide +kernel
theorem dX3_reckonDemands_35 : decode cX3_reckonDemands 35 = .ok (.istore_n 1, 1) := by decide +kernel
theorem dX3_reckonDemands_36 : decode cX3_reckonDemands 36 = .ok (.iload_n 1, 1) := by decide +kernel
theorem dX3_reckonDemands_37 : decode cX3_reckonDemands 37 = .ok (.aload_n 0, 1) := by decide +kernel
theorem dX3_reckonDemands_38 : decode cX3_reckonDemands 38 = .ok (.getfield 28, 3) := by decide +kernel
theorem dX3_reckonDemands_41 : decode cX3_reckonDemands 41 = .ok (.invokevirtual 65, 3) := by decide +kernel
theorem dX3_reckonDemands_44 : decode cX3_reckonDemands 44 = .ok (.if_icmp .ge 37, 3) := by decide +kernel
theorem dX3_reckonDemands_47 : decode cX3_reckonDemands 47 = .ok (.aload_n 0, 1) := by decide +kernel
theorem dX3_reckonDemands_48 : decode cX3_reckonDemands 48 = .ok (.getfield 28, 3) := by decide +kernel
theorem dX3_reckonDemands_51 : decode cX3_reckonDemands 51 = .ok (.iload_n 1, 1) := by decide +kernel
theorem dX3_reckonDemands_52 : decode cX3_reckonDemands 52 = .ok (.invokevirtual 169, 3) := by decide +kernel
theorem dX3_reckonDemands_55 : decode cX3_reckonDemands 55 = .ok (.checkcast 112, 3) := by decide +kernel
theorem dX3_reckonDemands_58 : decode cX3_reckonDemands 58 = .ok (.astore_n 2, 1) := by decide +kernel
theorem dX3_reckonDemands_59 : decode cX3_reckonDemands 59 = .ok (.aload_n 2, 1) := by decide +kernel
theorem dX3_reckonDemands_60 : decode cX3_reckonDemands 60 = .ok (.getfield 173, 3) := by decide +kernel
theorem dX3_reckonDemands_63 : decode cX3_reckonDemands 63 = .ok (.dup, 1) := by decide +kernel
theorem dX3_reckonDemands_64 : decode cX3_reckonDemands 64 = .ok (.getfield 205, 3) := by decide +kernel
theorem dX3_reckonDemands_67 : decode cX3_reckonDemands 67 = .ok (.aload_n 2, 1) := by decide +kernel
theorem dX3_reckonDemands_68 : decode cX3_reckonDemands 68 = .ok (.getfield 126, 3) := by decide +kernel
theorem dX3_reckonDemands_71 : decode cX3_reckonDemands 71 = .ok (.iadd, 1) := by decide +kernel
theorem dX3_reckonDemands_72 : decode cX3_reckonDemands 72 = .ok (.putfield 205, 3) := by decide +kernel
theorem dX3_reckonDemands_75 : decode cX3_reckonDemands 75 = .ok (.iinc 1 1, 3) := by decide +kernel
theorem dX3_reckonDemands_78 : decode cX3_reckonDemands 78 = .ok (.goto (-42), 3) := by decide +kernel
theorem dX3_reckonDemands_81 : decode cX3_reckonDemands 81 = .ok (.aload_n 0, 1) := by decide +kernel
theorem dX3_reckonDemands_82 : decode cX3_reckonDemands 82 = .ok (.getfield 10, 3) := by decide +kernel
theorem dX3_reckonDemands_85 : decode cX3_reckonDemands 85 = .ok (.invokevirtual 65, 3) := by decide +kernel
theorem dX3_reckonDemands_88 : decode cX3_reckonDemands 88 = .ok (.iconst 1, 1) := by decide +kernel
theorem dX3_reckonDemands_89 : decode cX3_reckonDemands 89 = .ok (.isub, 1) := by decide +kernel
theorem dX3_reckonDemands_90 : decode cX3_reckonDemands 90 = .ok (.istore_n 1, 1) := by decide +kernel
theorem dX3_reckonDemands_91 : decode cX3_reckonDemands 91 = .ok (.iload_n 1, 1) := by decide +kernel
theorem dX3_reckonDemands_92 : decode cX3_reckonDemands 92 = .ok (.ifCond .lt 23, 3) := by decide +kernel
theorem dX3_reckonDemands_95 : decode cX3_reckonDemands 95 = .ok (.aload_n 0, 1) := by decide +kernel
theorem dX3_reckonDemands_96 : decode cX3_reckonDemands 96 = .ok (.getfield 10, 3) := by decide +kernel
theorem dX3_reckonDemands_99 : decode cX3_reckonDemands 99 = .ok (.iload_n 1, 1) := by decide +kernel
theorem dX3_reckonDemands_100 : decode cX3_reckonDemands 100 = .ok (.invokevirtual 169, 3) := by decide +kernel
theorem dX3_reckonDemands_103 : decode cX3_reckonDemands 103 = .ok (.checkcast 16, 3) := by decide +kernel
theorem dX3_reckonDemands_106 : decode cX3_reckonDemands 106 = .ok (.invokevirtual 337, 3) := by decide +kernel
theorem dX3_reckonDemands_109 : decode cX3_reckonDemands 109 = .ok (.iinc 1 (-1), 3) := by decide +kernel
theorem dX3_reckonDemands_112 : decode cX3_reckonDemands 112 = .ok (.goto (-21), 3) := by decide +kernel
theorem dX3_reckonDemands_115 : decode cX3_reckonDemands 115 = .ok (.return_, 1) := by decide +kernel
theorem dX3_dealShares_0 : decode cX3_dealShares 0 = .ok (.aload_n 0, 1) := by decide +kernel
theorem dX3_dealShares_1 : decode cX3_dealShares 1 = .ok (.getfield 21, 3) := by decide +kernel
theorem dX3_dealShares_4 : decode cX3_dealShares 4 = .ok (.aload_n 0, 1) := by decide +kernel
theorem dX3_dealShares_5 : decode cX3_dealShares 5 = .ok (.invokevirtual 340, 3) := by decide +kernel
theorem dX3_dealShares_8 : decode cX3_dealShares 8 = .ok (.putfield 211, 3) := by decide +kernel
theorem dX3_dealShares_11 : decode cX3_dealShares 11 = .ok (.iconst 0, 1) := by decide +kernel
theorem dX3_dealShares_12 : decode cX3_dealShares 12 = .ok (.istore_n 1, 1) := by decide +kernel
theorem dX3_dealShares_13 : decode cX3_dealShares 13 = .ok (.iload_n 1, 1) := by decide +kernel
theorem dX3_dealShares_14 : decode cX3_dealShares 14 = .ok (.aload_n 0, 1) := by decide +kernel
theorem dX3_dealShares_15 : decode cX3_dealShares 15 = .ok (.getfield 10, 3) := by decide +kernel
theorem dX3_dealShares_18 : decode cX3_dealShares 18 = .ok (.invokevirtual 65, 3) := by decide +kernel
theorem dX3_dealShares_21 : decode cX3_dealShares 21 = .ok (.if_icmp .ge 23, 3) := by decide +kernel
theorem dX3_dealShares_24 : decode cX3_dealShares 24 = .ok (.aload_n 0, 1) := by decide +kernel
theorem dX3_dealShares_25 : decode cX3_dealShares 25 = .ok (.getfield 10, 3) := by decide +kernel
theorem dX3_dealShares_28 : decode cX3_dealShares 28 = .ok (.iload_n 1, 1) := by decide +kernel
theorem dX3_dealShares_29 : decode cX3_dealShares 29 = .ok (.invokevirtual 169, 3) := by decide +kernel
theorem dX3_dealShares_32 : decode cX3_dealShares 32 = .ok (.checkcast 16, 3) := by decide +kernel
theorem dX3_dealShares_35 : decode cX3_dealShares 35 = .ok (.invokevirtual 343, 3) := by decide +kernel
theorem dX3_dealShares_38 : decode cX3_dealShares 38 = .ok (.iinc 1 1, 3) := by decide +kernel
theorem dX3_dealShares_41 : decode cX3_dealShares 41 = .ok (.goto (-28), 3) := by decide +kernel
theorem dX3_dealShares_44 : decode cX3_dealShares 44 = .ok (.return_, 1) := by decide +kernel
theorem dX3_fillShares_0 : decode cX3_fillShares 0 = .ok (.aload_n 0, 1) := by decide +kernel
theorem dX3_fillShares_1 : decode cX3_fillShares 1 = .ok (.getfield 21, 3) := by decide +kernel
theorem dX3_fillShares_4 : decode cX3_fillShares 4 = .ok (.aload_n 0, 1) := by decide +kernel
theorem dX3_fillShares_5 : decode cX3_fillShares 5 = .ok (.invokevirtual 340, 3) := by decide +kernel
theorem dX3_fillShares_8 : decode cX3_fillShares 8 = .ok (.putfield 217, 3) := by decide +kernel
theorem dX3_fillShares_11 : decode cX3_fillShares 11 = .ok (.iconst 0, 1) := by decide +kernel
theorem dX3_fillShares_12 : decode cX3_fillShares 12 = .ok (.istore_n 1, 1) := by decide +kernel
theorem dX3_fillShares_13 : decode cX3_fillShares 13 = .ok (.iload_n 1, 1) := by decide +kernel
theorem dX3_fillShares_14 : decode cX3_fillShares 14 = .ok (.aload_n 0, 1) := by decide +kernel
theorem dX3_fillShares_15 : decode cX3_fillShares 15 = .ok (.getfield 10, 3) := by decide +kernel
theorem dX3_fillShares_18 : decode cX3_fillShares 18 = .ok (.invokevirtual 65, 3) := by decide +kernel
theorem dX3_fillShares_21 : decode cX3_fillShares 21 = .ok (.if_icmp .ge 23, 3) := by decide +kernel
theorem dX3_fillShares_24 : decode cX3_fillShares 24 = .ok (.aload_n 0, 1) := by decide +kernel
theorem dX3_fillShares_25 : decode cX3_fillShares 25 = .ok (.getfield 10, 3) := by decide +kernel
theorem dX3_fillShares_28 : decode cX3_fillShares 28 = .ok (.iload_n 1, 1) := by decide +kernel
theorem dX3_fillShares_29 : decode cX3_fillShares 29 = .ok (.invokevirtual 169, 3) := by decide +kernel
theorem dX3_fillShares_32 : decode cX3_fillShares 32 = .ok (.checkcast 16, 3) := by decide +kernel
theorem dX3_fillShares_35 : decode cX3_fillShares 35 = .ok (.invokevirtual 346, 3) := by decide +kernel
theorem dX3_fillShares_38 : decode cX3_fillShares 38 = .ok (.iinc 1 1, 3) := by decide +kernel
theorem dX3_fillShares_41 : decode cX3_fillShares 41 = .ok (.goto (-28), 3) := by decide +kernel
theorem dX3_fillShares_44 : decode cX3_fillShares 44 = .ok (.return_, 1) := by decide +kernel
theorem dX3_rootShare_0 : decode cX3_rootShare 0 = .ok (.aload_n 0, 1) := by decide +kernel
theorem dX3_rootShare_1 : decode cX3_rootShare 1 = .ok (.getfield 40, 3) := by decide +kernel
theorem dX3_rootShare_4 : decode cX3_rootShare 4 = .ok (.aload_n 0, 1) := by decide +kernel
theorem dX3_rootShare_5 : decode cX3_rootShare 5 = .ok (.getfield 21, 3) := by decide +kernel
theorem dX3_rootShare_8 : decode cX3_rootShare 8 = .ok (.getfield 205, 3) := by decide +kernel
theorem dX3_rootShare_11 : decode cX3_rootShare 11 = .ok (.invokestatic 349, 3) := by decide +kernel
theorem dX3_rootShare_14 : decode cX3_rootShare 14 = .ok (.ireturn, 1) := by decide +kernel
theorem dX3_sharesAreFair_0 : decode cX3_sharesAreFair 0 = .ok (.iconst 0, 1) := by decide +kernel
theorem dX3_sharesAreFair_1 : decode cX3_sharesAreFair 1 = .ok (.istore_n 1, 1) := by decide +kernel
theorem dX3_sharesAreFair_2 : decode cX3_sharesAreFair 2 = .ok (.iload_n 1, 1) := by decide +kernel
theorem dX3_sharesAreFair_3 : decode cX3_sharesAreFair 3 = .ok (.aload_n 0, 1) := by decide +kernel
theorem dX3_sharesAreFair_4 : decode cX3_sharesAreFair 4 = .ok (.getfield 10, 3) := by decide +kernel
theorem dX3_sharesAreFair_7 : decode cX3_sharesAreFair 7 = .ok (.invokevirtual 65, 3) := by decide +kernel
theorem dX3_sharesAreFair_10 : decode cX3_sharesAreFair 10 = .ok (.if_icmp .ge 45, 3) := by decide +kernel
theorem dX3_sharesAreFair_13 : decode cX3_sharesAreFair 13 = .ok (.aload_n 0, 1) := by decide +kernel
theorem dX3_sharesAreFair_14 : decode cX3_sharesAreFair 14 = .ok (.getfield 10, 3) := by decide +kernel
theorem dX3_sharesAreFair_17 : decode cX3_sharesAreFair 17 = .ok (.iload_n 1, 1) := by decide +kernel
theorem dX3_sharesAreFair_18 : decode cX3_sharesAreFair 18 = .ok (.invokevirtual 169, 3) := by decide +kernel
theorem dX3_sharesAreFair_21 : decode cX3_sharesAreFair 21 = .ok (.checkcast 16, 3) := by decide +kernel
theorem dX3_sharesAreFair_24 : decode cX3_sharesAreFair 24 = .ok (.astore_n 2, 1) := by decide +kernel
theorem dX3_sharesAreFair_25 : decode cX3_sharesAreFair 25 = .ok (.aload_n 2, 1) := by decide +kernel
theorem dX3_sharesAreFair_26 : decode cX3_sharesAreFair 26 = .ok (.getfield 211, 3) := by decide +kernel
theorem dX3_sharesAreFair_29 : decode cX3_sharesAreFair 29 = .ok (.aload_n 2, 1) := by decide +kernel
theorem dX3_sharesAreFair_30 : decode cX3_sharesAreFair 30 = .ok (.getfield 217, 3) := by decide +kernel
theorem dX3_sharesAreFair_33 : decode cX3_sharesAreFair 33 = .ok (.if_icmp .ne 14, 3) := by decide +kernel
theorem dX3_sharesAreFair_36 : decode cX3_sharesAreFair 36 = .ok (.aload_n 2, 1) := by decide +kernel
theorem dX3_sharesAreFair_37 : decode cX3_sharesAreFair 37 = .ok (.invokevirtual 352, 3) := by decide +kernel
theorem dX3_sharesAreFair_40 : decode cX3_sharesAreFair 40 = .ok (.aload_n 2, 1) := by decide +kernel
theorem dX3_sharesAreFair_41 : decode cX3_sharesAreFair 41 = .ok (.getfield 211, 3) := by decide +kernel
theorem dX3_sharesAreFair_44 : decode cX3_sharesAreFair 44 = .ok (.if_icmp .le 5, 3) := by decide +kernel
theorem dX3_sharesAreFair_47 : decode cX3_sharesAreFair 47 = .ok (.iconst 0, 1) := by decide +kernel
theorem dX3_sharesAreFair_48 : decode cX3_sharesAreFair 48 = .ok (.ireturn, 1) := by decide +kernel
theorem dX3_sharesAreFair_49 : decode cX3_sharesAreFair 49 = .ok (.iinc 1 1, 3) := by decide +kernel
theorem dX3_sharesAreFair_52 : decode cX3_sharesAreFair 52 = .ok (.goto (-50), 3) := by decide +kernel
theorem dX3_sharesAreFair_55 : decode cX3_sharesAreFair 55 = .ok (.iconst 1, 1) := by decide +kernel
theorem dX3_sharesAreFair_56 : decode cX3_sharesAreFair 56 = .ok (.ireturn, 1) := by decide +kernel
theorem dX3_someFirstJobCanBeServed_0 : decode cX3_someFirstJobCanBeServed 0 = .ok (.aload_n 0, 1) := by decide +kernel
theorem dX3_someFirstJobCanBeServed_1 : decode cX3_someFirstJobCanBeServed 1 = .ok (.invokevirtual 164, 3) := by decide +kernel
theorem dX3_someFirstJobCanBeServed_4 : decode cX3_someFirstJobCanBeServed 4 = .ok (.iconst 0, 1) := by decide +kernel
theorem dX3_someFirstJobCanBeServed_5 : decode cX3_someFirstJobCanBeServed 5 = .ok (.istore_n 1, 1) := by decide +kernel
theorem dX3_someFirstJobCanBeServed_6 : decode cX3_someFirstJobCanBeServed 6 = .ok (.iload_n 1, 1) := by decide +kernel
theorem dX3_someFirstJobCanBeServed_7 : decode cX3_someFirstJobCanBeServed 7 = .ok (.aload_n 0, 1) := by decide +kernel
theorem dX3_someFirstJobCanBeServed_8 : decode cX3_someFirstJobCanBeServed 8 = .ok (.getfield 34, 3) := by decide +kernel
theorem dX3_someFirstJobCanBeServed_11 : decode cX3_someFirstJobCanBeServed 11 = .ok (.invokevirtual 65, 3) := by decide +kernel
theorem dX3_someFirstJobCanBeServed_14 : decode cX3_someFirstJobCanBeServed 14 = .ok (.if_icmp .ge 29, 3) := by decide +kernel
theorem dX3_someFirstJobCanBeServed_17 : decode cX3_someFirstJobCanBeServed 17 = .ok (.aload_n 0, 1) := by decide +kernel
theorem dX3_someFirstJobCanBeServed_18 : decode cX3_someFirstJobCanBeServed 18 = .ok (.aload_n 0, 1) := by decide +kernel
theorem dX3_someFirstJobCanBeServed_19 : decode cX3_someFirstJobCanBeServed 19 = .ok (.getfield 34, 3) := by decide +kernel
theorem dX3_someFirstJobCanBeServed_22 : decode cX3_someFirstJobCanBeServed 22 = .ok (.iload_n 1, 1) := by decide +kernel
theorem dX3_someFirstJobCanBeServed_23 : decode cX3_someFirstJobCanBeServed 23 = .ok (.invokevirtual 169, 3) := by decide +kernel
theorem dX3_someFirstJobCanBeServed_26 : decode cX3_someFirstJobCanBeServed 26 = .ok (.checkcast 112, 3) := by decide +kernel
theorem dX3_someFirstJobCanBeServed_29 : decode cX3_someFirstJobCanBeServed 29 = .ok (.invokevirtual 284, 3) := by decide +kernel
theorem dX3_someFirstJobCanBeServed_32 : decode cX3_someFirstJobCanBeServed 32 = .ok (.ifCond .eq 5, 3) := by decide +kernel
theorem dX3_someFirstJobCanBeServed_35 : decode cX3_someFirstJobCanBeServed 35 = .ok (.iconst 1, 1) := by decide +kernel
theorem dX3_someFirstJobCanBeServed_36 : decode cX3_someFirstJobCanBeServed 36 = .ok (.ireturn, 1) := by decide +kernel
theorem dX3_someFirstJobCanBeServed_37 : decode cX3_someFirstJobCanBeServed 37 = .ok (.iinc 1 1, 3) := by decide +kernel
theorem dX3_someFirstJobCanBeServed_40 : decode cX3_someFirstJobCanBeServed 40 = .ok (.goto (-34), 3) := by decide +kernel
theorem dX3_someFirstJobCanBeServed_43 : decode cX3_someFirstJobCanBeServed 43 = .ok (.iconst 0, 1) := by decide +kernel
theorem dX3_someFirstJobCanBeServed_44 : decode cX3_someFirstJobCanBeServed 44 = .ok (.ireturn, 1) := by decide +kernel
theorem dX4_init_0 : decode cX4_init 0 = .ok (.aload_n 0, 1) := by decide +kernel
theorem dX4_init_1 : decode cX4_init 1 = .ok (.invokespecial 1, 3) := by decide +kernel
theorem dX4_init_4 : decode cX4_init 4 = .ok (.aload_n 0, 1) := by decide +kernel
theorem dX4_init_5 : decode cX4_init 5 = .ok (.bipush 20, 2) := by decide +kernel
theorem dX4_init_7 : decode cX4_init 7 = .ok (.putfield 7, 3) := by decide +kernel
theorem dX4_init_10 : decode cX4_init 10 = .ok (.aload_n 0, 1) := by decide +kernel
theorem dX4_init_11 : decode cX4_init 11 = .ok (.bipush 10, 2) := by decide +kernel
theorem dX4_init_13 : decode cX4_init 13 = .ok (.putfield 13, 3) := by decide +kernel
theorem dX4_init_16 : decode cX4_init 16 = .ok (.aload_n 0, 1) := by decide +kernel
theorem dX4_init_17 : decode cX4_init 17 = .ok (.iconst 1, 1) := by decide +kernel
theorem dX4_init_18 : decode cX4_init 18 = .ok (.putfield 16, 3) := by decide +kernel
theorem dX4_init_21 : decode cX4_init 21 = .ok (.aload_n 0, 1) := by decide +kernel
theorem dX4_init_22 : decode cX4_init 22 = .ok (.bipush 10, 2) := by decide +kernel
theorem dX4_init_24 : decode cX4_init 24 = .ok (.newarray .int, 2) := by decide +kernel
theorem dX4_init_26 : decode cX4_init 26 = .ok (.putfield 19, 3) := by decide +kernel
theorem dX4_init_29 : decode cX4_init 29 = .ok (.aload_n 0, 1) := by decide +kernel
theorem dX4_init_30 : decode cX4_init 30 = .ok (.bipush 10, 2) := by decide +kernel
theorem dX4_init_32 : decode cX4_init 32 = .ok (.newarray .int, 2) := by decide +kernel
theorem dX4_init_34 : decode cX4_init 34 = .ok (.putfield 23, 3) := by decide +kernel
theorem dX4_init_37 : decode cX4_init 37 = .ok (.aload_n 0, 1) := by decide +kernel
theorem dX4_init_38 : decode cX4_init 38 = .ok (.bipush 10, 2) := by decide +kernel
theorem dX4_init_40 : decode cX4_init 40 = .ok (.newarray .int, 2) := by decide +kernel
theorem dX4_init_42 : decode cX4_init 42 = .ok (.putfield 26, 3) := by decide +kernel
theorem dX4_init_45 : decode cX4_init 45 = .ok (.aload_n 0, 1) := by decide +kernel
theorem dX4_init_46 : decode cX4_init 46 = .ok (.bipush 10, 2) := by decide +kernel
theorem dX4_init_48 : decode cX4_init 48 = .ok (.newarray .long, 2) := by decide +kernel
theorem dX4_init_50 : decode cX4_init 50 = .ok (.putfield 29, 3) := by decide +kernel
theorem dX4_init_53 : decode cX4_init 53 = .ok (.aload_n 0, 1) := by decide +kernel
theorem dX4_init_54 : decode cX4_init 54 = .ok (.bipush 10, 2) := by decide +kernel
theorem dX4_init_56 : decode cX4_init 56 = .ok (.newarray .boolean, 2) := by decide +kernel
theorem dX4_init_58 : decode cX4_init 58 = .ok (.putfield 33, 3) := by decide +kernel
theorem dX4_init_61 : decode cX4_init 61 = .ok (.aload_n 0, 1) := by decide +kernel
theorem dX4_init_62 : decode cX4_init 62 = .ok (.bipush 10, 2) := by decide +kernel
theorem dX4_init_64 : decode cX4_init 64 = .ok (.newarray .int, 2) := by decide +kernel
theorem dX4_init_66 : decode cX4_init 66 = .ok (.putfield 37, 3) := by decide +kernel
theorem dX4_init_69 : decode cX4_init 69 = .ok (.aload_n 0, 1) := by decide +kernel
theorem dX4_init_70 : decode cX4_init 70 = .ok (.bipush 10, 2) := by decide +kernel
theorem dX4_init_72 : decode cX4_init 72 = .ok (.newarray .int, 2) := by decide +kernel
theorem dX4_init_74 : decode cX4_init 74 = .ok (.putfield 40, 3) := by decide +kernel
theorem dX4_init_77 : decode cX4_init 77 = .ok (.aload_n 0, 1) := by decide +kernel
theorem dX4_init_78 : decode cX4_init 78 = .ok (.sipush 640, 3) := by decide +kernel
theorem dX4_init_81 : decode cX4_init 81 = .ok (.newarray .int, 2) := by decide +kernel
theorem dX4_init_83 : decode cX4_init 83 = .ok (.putfield 43, 3) := by decide +kernel
theorem dX4_init_86 : decode cX4_init 86 = .ok (.aload_n 0, 1) := by decide +kernel
theorem dX4_init_87 : decode cX4_init 87 = .ok (.sipush 640, 3) := by decide +kernel
theorem dX4_init_90 : decode cX4_init 90 = .ok (.newarray .int, 2) := by decide +kernel
theorem dX4_init_92 : decode cX4_init 92 = .ok (.putfield 46, 3) := by decide +kernel
theorem dX4_init_95 : decode cX4_init 95 = .ok (.aload_n 0, 1) := by decide +kernel
theorem dX4_init_96 : decode cX4_init 96 = .ok (.sipush 640, 3) := by decide +kernel
theorem dX4_init_99 : decode cX4_init 99 = .ok (.newarray .int, 2) := by decide +kernel
theorem dX4_init_101 : decode cX4_init 101 = .ok (.putfield 49, 3) := by decide +kernel
theorem dX4_init_104 : decode cX4_init 104 = .ok (.aload_n 0, 1) := by decide +kernel
theorem dX4_init_105 : decode cX4_init 105 = .ok (.sipush 640, 3) := by decide +kernel
theorem dX4_init_108 : decode cX4_init 108 = .ok (.newarray .int, 2) := by decide +kernel
theorem dX4_init_110 : decode cX4_init 110 = .ok (.putfield 52, 3) := by decide +kernel
theorem dX4_init_113 : decode cX4_init 113 = .ok (.aload_n 0, 1) := by decide +kernel
theorem dX4_init_114 : decode cX4_init 114 = .ok (.sipush 640, 3) := by decide +kernel
theorem dX4_init_117 : decode cX4_init 117 = .ok (.newarray .int, 2) := by decide +kernel
theorem dX4_init_119 : decode cX4_init 119 = .ok (.putfield 55, 3) := by decide +kernel
theorem dX4_init_122 : decode cX4_init 122 = .ok (.aload_n 0, 1) := by decide +kernel
theorem dX4_init_123 : decode cX4_init 123 = .ok (.sipush 640, 3) := by decide +kernel
theorem dX4_init_126 : decode cX4_init 126 = .ok (.newarray .int, 2) := by decide +kernel
theorem dX4_init_128 : decode cX4_init 128 = .ok (.putfield 58, 3) := by decide +kernel
theorem dX4_init_131 : decode cX4_init 131 = .ok (.aload_n 0, 1) := by decide +kernel
theorem dX4_init_132 : decode cX4_init 132 = .ok (.sipush 640, 3) := by decide +kernel
theorem dX4_init_135 : decode cX4_init 135 = .ok (.newarray .int, 2) := by decide +kernel
theorem dX4_init_137 : decode cX4_init 137 = .ok (.putfield 61, 3) := by decide +kernel
theorem dX4_init_140 : decode cX4_init 140 = .ok (.aload_n 0, 1) := by decide +kernel
theorem dX4_init_141 : decode cX4_init 141 = .ok (.bipush 8, 2) := by decide +kernel
theorem dX4_init_143 : decode cX4_init 143 = .ok (.newarray .int, 2) := by decide +kernel
theorem dX4_init_145 : decode cX4_init 145 = .ok (.putfield 64, 3) := by decide +kernel
theorem dX4_init_148 : decode cX4_init 148 = .ok (.aload_n 0, 1) := by decide +kernel
theorem dX4_init_149 : decode cX4_init 149 = .ok (.bipush 8, 2) := by decide +kernel
theorem dX4_init_151 : decode cX4_init 151 = .ok (.newarray .int, 2) := by decide +kernel
theorem dX4_init_153 : decode cX4_init 153 = .ok (.putfield 67, 3) := by decide +kernel
theorem dX4_init_156 : decode cX4_init 156 = .ok (.aload_n 0, 1) := by decide +kernel
theorem dX4_init_157 : decode cX4_init 157 = .ok (.bipush 8, 2) := by decide +kernel
theorem dX4_init_159 : decode cX4_init 159 = .ok (.newarray .int, 2) := by decide +kernel
theorem dX4_init_161 : decode cX4_init 161 = .ok (.putfield 70, 3) := by decide +kernel
theorem dX4_init_164 : decode cX4_init 164 = .ok (.aload_n 0, 1) := by decide +kernel
theorem dX4_init_165 : decode cX4_init 165 = .ok (.bipush 8, 2) := by decide +kernel
theorem dX4_init_167 : decode cX4_init 167 = .ok (.newarray .int, 2) := by decide +kernel
theorem dX4_init_169 : decode cX4_init 169 = .ok (.putfield 73, 3) := by decide +kernel
theorem dX4_init_172 : decode cX4_init 172 = .ok (.aload_n 0, 1) := by decide +kernel
theorem dX4_init_173 : decode cX4_init 173 = .ok (.bipush 10, 2) := by decide +kernel
theorem dX4_init_175 : decode cX4_init 175 = .ok (.newarray .int, 2) := by decide +kernel
theorem dX4_init_177 : decode cX4_init 177 = .ok (.putfield 76, 3) := by decide +kernel
theorem dX4_init_180 : decode cX4_init 180 = .ok (.aload_n 0, 1) := by decide +kernel
theorem dX4_init_181 : decode cX4_init 181 = .ok (.bipush 10, 2) := by decide +kernel
theorem dX4_init_183 : decode cX4_init 183 = .ok (.newarray .int, 2) := by decide +kernel
theorem dX4_init_185 : decode cX4_init 185 = .ok (.putfield 79, 3) := by decide +kernel
theorem dX4_init_188 : decode cX4_init 188 = .ok (.aload_n 0, 1) := by decide +kernel
theorem dX4_init_189 : decode cX4_init 189 = .ok (.bipush 10, 2) := by decide +kernel
theorem dX4_init_191 : decode cX4_init 191 = .ok (.newarray .int, 2) := by decide +kernel
theorem dX4_init_193 : decode cX4_init 193 = .ok (.putfield 82, 3) := by decide +kernel
theorem dX4_init_196 : decode cX4_init 196 = .ok (.aload_n 0, 1) := by decide +kernel
theorem dX4_init_197 : decode cX4_init 197 = .ok (.bipush 40, 2) := by decide +kernel
theorem dX4_init_199 : decode cX4_init 199 = .ok (.newarray .int, 2) := by decide +kernel
theorem dX4_init_201 : decode cX4_init 201 = .ok (.putfield 85, 3) := by decide +kernel
theorem dX4_init_204 : decode cX4_init 204 = .ok (.aload_n 0, 1) := by decide +kernel
theorem dX4_init_205 : decode cX4_init 205 = .ok (.getfield 23, 3) := by decide +kernel
theorem dX4_init_208 : decode cX4_init 208 = .ok (.iconst 0, 1) := by decide +kernel
theorem dX4_init_209 : decode cX4_init 209 = .ok (.iconst 1, 1) := by decide +kernel
theorem dX4_init_210 : decode cX4_init 210 = .ok (.iastore, 1) := by decide +kernel
theorem dX4_init_211 : decode cX4_init 211 = .ok (.aload_n 0, 1) := by decide +kernel
theorem dX4_init_212 : decode cX4_init 212 = .ok (.getfield 19, 3) := by decide +kernel
theorem dX4_init_215 : decode cX4_init 215 = .ok (.iconst 0, 1) := by decide +kernel
theorem dX4_init_216 : decode cX4_init 216 = .ok (.iconst (-1), 1) := by decide +kernel
theorem dX4_init_217 : decode cX4_init 217 = .ok (.iastore, 1) := by decide +kernel
theorem dX4_init_218 : decode cX4_init 218 = .ok (.aload_n 0, 1) := by decide +kernel
theorem dX4_init_219 : decode cX4_init 219 = .ok (.getfield 26, 3) := by decide +kernel
theorem dX4_init_222 : decode cX4_init 222 = .ok (.iconst 0, 1) := by decide +kernel
theorem dX4_init_223 : decode cX4_init 223 = .ok (.sipush 500, 3) := by decide +kernel
theorem dX4_init_226 : decode cX4_init 226 = .ok (.iastore, 1) := by decide +kernel
theorem dX4_init_227 : decode cX4_init 227 = .ok (.return_, 1) := by decide +kernel
theorem dX4_thrown_0 : decode cX4_thrown 0 = .ok (.aload_n 0, 1) := by decide +kernel
theorem dX4_thrown_1 : decode cX4_thrown 1 = .ok (.getfield 88, 3) := by decide +kernel
theorem dX4_thrown_4 : decode cX4_thrown 4 = .ok (.ireturn, 1) := by decide +kernel
theorem dX4_in_0 : decode cX4_in 0 = .ok (.iload_n 0, 1) := by decide +kernel
theorem dX4_in_1 : decode cX4_in 1 = .ok (.iload_n 1, 1) := by decide +kernel
theorem dX4_in_2 : decode cX4_in 2 = .ok (.if_icmp .lt 12, 3) := by decide +kernel
theorem dX4_in_5 : decode cX4_in 5 = .ok (.iload_n 0, 1) := by decide +kernel
theorem dX4_in_6 : decode cX4_in 6 = .ok (.iload_n 2, 1) := by decide +kernel
theorem dX4_in_7 : decode cX4_in 7 = .ok (.if_icmp .gt 7, 3) := by decide +kernel
theorem dX4_in_10 : decode cX4_in 10 = .ok (.iconst 1, 1) := by decide +kernel
theorem dX4_in_11 : decode cX4_in 11 = .ok (.goto 4, 3) := by decide +kernel
theorem dX4_in_14 : decode cX4_in 14 = .ok (.iconst 0, 1) := by decide +kernel
theorem dX4_in_15 : decode cX4_in 15 = .ok (.ireturn, 1) := by decide +kernel
theorem dX4_goesOn_0 : decode cX4_goesOn 0 = .ok (.aload_n 0, 1) := by decide +kernel
theorem dX4_goesOn_1 : decode cX4_goesOn 1 = .ok (.iload_n 1, 1) := by decide +kernel
theorem dX4_goesOn_2 : decode cX4_goesOn 2 = .ok (.putfield 88, 3) := by decide +kernel
theorem dX4_goesOn_5 : decode cX4_goesOn 5 = .ok (.iload_n 1, 1) := by decide +kernel
theorem dX4_goesOn_6 : decode cX4_goesOn 6 = .ok (.ifCond .ne 7, 3) := by decide +kernel
theorem dX4_goesOn_9 : decode cX4_goesOn 9 = .ok (.iconst 1, 1) := by decide +kernel
theorem dX4_goesOn_10 : decode cX4_goesOn 10 = .ok (.goto 4, 3) := by decide +kernel
theorem dX4_goesOn_13 : decode cX4_goesOn 13 = .ok (.iconst 0, 1) := by decide +kernel
theorem dX4_goesOn_14 : decode cX4_goesOn 14 = .ok (.ireturn, 1) := by decide +kernel
theorem dX4_isTeam_0 : decode cX4_isTeam 0 = .ok (.iload_n 1, 1) := by decide +kernel
theorem dX4_isTeam_1 : decode cX4_isTeam 1 = .ok (.iconst 0, 1) := by decide +kernel
theorem dX4_isTeam_2 : decode cX4_isTeam 2 = .ok (.aload_n 0, 1) := by decide +kernel
theorem dX4_isTeam_3 : decode cX4_isTeam 3 = .ok (.getfield 16, 3) := by decide +kernel
theorem dX4_isTeam_6 : decode cX4_isTeam 6 = .ok (.iconst 1, 1) := by decide +kernel
theorem dX4_isTeam_7 : decode cX4_isTeam 7 = .ok (.isub, 1) := by decide +kernel
theorem dX4_isTeam_8 : decode cX4_isTeam 8 = .ok (.invokestatic 91, 3) := by decide +kernel
theorem dX4_isTeam_11 : decode cX4_isTeam 11 = .ok (.ireturn, 1) := by decide +kernel
theorem dX4_childrenOf_0 : decode cX4_childrenOf 0 = .ok (.iconst 0, 1) := by decide +kernel
theorem dX4_childrenOf_1 : decode cX4_childrenOf 1 = .ok (.istore_n 2, 1) := by decide +kernel
theorem dX4_childrenOf_2 : decode cX4_childrenOf 2 = .ok (.iconst 1, 1) := by decide +kernel
theorem dX4_childrenOf_3 : decode cX4_childrenOf 3 = .ok (.istore_n 3, 1) := by decide +kernel
theorem dX4_childrenOf_4 : decode cX4_childrenOf 4 = .ok (.iload_n 3, 1) := by decide +kernel
theorem dX4_childrenOf_5 : decode cX4_childrenOf 5 = .ok (.aload_n 0, 1) := by decide +kernel
theorem dX4_childrenOf_6 : decode cX4_childrenOf 6 = .ok (.getfield 16, 3) := by decide +kernel
theorem dX4_childrenOf_9 : decode cX4_childrenOf 9 = .ok (.if_icmp .ge 27, 3) := by decide +kernel
theorem dX4_childrenOf_12 : decode cX4_childrenOf 12 = .ok (.iload_n 2, 1) := by decide +kernel
theorem dX4_childrenOf_13 : decode cX4_childrenOf 13 = .ok (.aload_n 0, 1) := by decide +kernel
theorem dX4_childrenOf_14 : decode cX4_childrenOf 14 = .ok (.getfield 19, 3) := by decide +kernel
theorem dX4_childrenOf_17 : decode cX4_childrenOf 17 = .ok (.iload_n 3, 1) := by decide +kernel
theorem dX4_childrenOf_18 : decode cX4_childrenOf 18 = .ok (.iaload, 1) := by decide +kernel
theorem dX4_childrenOf_19 : decode cX4_childrenOf 19 = .ok (.iload_n 1, 1) := by decide +kernel
theorem dX4_childrenOf_20 : decode cX4_childrenOf 20 = .ok (.if_icmp .ne 7, 3) := by decide +kernel
theorem dX4_childrenOf_23 : decode cX4_childrenOf 23 = .ok (.iconst 1, 1) := by decide +kernel
theorem dX4_childrenOf_24 : decode cX4_childrenOf 24 = .ok (.goto 4, 3) := by decide +kernel
theorem dX4_childrenOf_27 : decode cX4_childrenOf 27 = .ok (.iconst 0, 1) := by decide +kernel
theorem dX4_childrenOf_28 : decode cX4_childrenOf 28 = .ok (.iadd, 1) := by decide +kernel
theorem dX4_childrenOf_29 : decode cX4_childrenOf 29 = .ok (.istore_n 2, 1) := by decide +kernel
theorem dX4_childrenOf_30 : decode cX4_childrenOf 30 = .ok (.iinc 3 1, 3) := by decide +kernel
theorem dX4_childrenOf_33 : decode cX4_childrenOf 33 = .ok (.goto (-29), 3) := by decide +kernel
theorem dX4_childrenOf_36 : decode cX4_childrenOf 36 = .ok (.iload_n 2, 1) := by decide +kernel
theorem dX4_childrenOf_37 : decode cX4_childrenOf 37 = .ok (.ireturn, 1) := by decide +kernel
theorem dX4_isLeaf_0 : decode cX4_isLeaf 0 = .ok (.aload_n 0, 1) := by decide +kernel
theorem dX4_isLeaf_1 : decode cX4_isLeaf 1 = .ok (.iload_n 1, 1) := by decide +kernel
theorem dX4_isLeaf_2 : decode cX4_isLeaf 2 = .ok (.invokevirtual 95, 3) := by decide +kernel
theorem dX4_isLeaf_5 : decode cX4_isLeaf 5 = .ok (.ifCond .ne 7, 3) := by decide +kernel
theorem dX4_isLeaf_8 : decode cX4_isLeaf 8 = .ok (.iconst 1, 1) := by decide +kernel
theorem dX4_isLeaf_9 : decode cX4_isLeaf 9 = .ok (.goto 4, 3) := by decide +kernel
theorem dX4_isLeaf_12 : decode cX4_isLeaf 12 = .ok (.iconst 0, 1) := by decide +kernel
theorem dX4_isLeaf_13 : decode cX4_isLeaf 13 = .ok (.ireturn, 1) := by decide +kernel
theorem dX4_leafFault_0 : decode cX4_leafFault 0 = .ok (.aload_n 0, 1) := by decide +kernel
theorem dX4_leafFault_1 : decode cX4_leafFault 1 = .ok (.iload_n 1, 1) := by decide +kernel
theorem dX4_leafFault_2 : decode cX4_leafFault 2 = .ok (.invokevirtual 99, 3) := by decide +kernel
theorem dX4_leafFault_5 : decode cX4_leafFault 5 = .ok (.ifCond .ne 7, 3) := by decide +kernel
theorem dX4_leafFault_8 : decode cX4_leafFault 8 = .ok (.iconst 1, 1) := by decide +kernel
theorem dX4_leafFault_9 : decode cX4_leafFault 9 = .ok (.goto 16, 3) := by decide +kernel
theorem dX4_leafFault_12 : decode cX4_leafFault 12 = .ok (.aload_n 0, 1) := by decide +kernel
theorem dX4_leafFault_13 : decode cX4_leafFault 13 = .ok (.iload_n 1, 1) := by decide +kernel
theorem dX4_leafFault_14 : decode cX4_leafFault 14 = .ok (.invokevirtual 103, 3) := by decide +kernel
theorem dX4_leafFault_17 : decode cX4_leafFault 17 = .ok (.ifCond .ne 7, 3) := by decide +kernel
theorem dX4_leafFault_20 : decode cX4_leafFault 20 = .ok (.iconst 2, 1) := by decide +kernel
theorem dX4_leafFault_21 : decode cX4_leafFault 21 = .ok (.goto 4, 3) := by decide +kernel
theorem dX4_leafFault_24 : decode cX4_leafFault 24 = .ok (.iconst 0, 1) := by decide +kernel
theorem dX4_leafFault_25 : decode cX4_leafFault 25 = .ok (.ireturn, 1) := by decide +kernel
theorem dX4_demandOf_0 : decode cX4_demandOf 0 = .ok (.aload_n 0, 1) := by decide +kernel
theorem dX4_demandOf_1 : decode cX4_demandOf 1 = .ok (.iload_n 1, 1) := by decide +kernel
theorem dX4_demandOf_2 : decode cX4_demandOf 2 = .ok (.invokevirtual 103, 3) := by decide +kernel
theorem dX4_demandOf_5 : decode cX4_demandOf 5 = .ok (.ifCond .eq 19, 3) := by decide +kernel
theorem dX4_demandOf_8 : decode cX4_demandOf 8 = .ok (.aload_n 0, 1) := by decide +kernel
theorem dX4_demandOf_9 : decode cX4_demandOf 9 = .ok (.getfield 40, 3) := by decide +kernel
theorem dX4_demandOf_12 : decode cX4_demandOf 12 = .ok (.iload_n 1, 1) := by decide +kernel
theorem dX4_demandOf_13 : decode cX4_demandOf 13 = .ok (.iaload, 1) := by decide +kernel
theorem dX4_demandOf_14 : decode cX4_demandOf 14 = .ok (.aload_n 0, 1) := by decide +kernel
theorem dX4_demandOf_15 : decode cX4_demandOf 15 = .ok (.getfield 37, 3) := by decide +kernel
theorem dX4_demandOf_18 : decode cX4_demandOf 18 = .ok (.iload_n 1, 1) := by decide +kernel
theorem dX4_demandOf_19 : decode cX4_demandOf 19 = .ok (.iaload, 1) := by decide +kernel
theorem dX4_demandOf_20 : decode cX4_demandOf 20 = .ok (.iadd, 1) := by decide +kernel
theorem dX4_demandOf_21 : decode cX4_demandOf 21 = .ok (.goto 4, 3) := by decide +kernel
theorem dX4_demandOf_24 : decode cX4_demandOf 24 = .ok (.iconst 0, 1) := by decide +kernel
theorem dX4_demandOf_25 : decode cX4_demandOf 25 = .ok (.istore_n 2, 1) := by decide +kernel
theorem dX4_demandOf_26 : decode cX4_demandOf 26 = .ok (.iconst 1, 1) := by decide +kernel
theorem dX4_demandOf_27 : decode cX4_demandOf 27 = .ok (.istore_n 3, 1) := by decide +kernel
theorem dX4_demandOf_28 : decode cX4_demandOf 28 = .ok (.iload_n 3, 1) := by decide +kernel
theorem dX4_demandOf_29 : decode cX4_demandOf 29 = .ok (.aload_n 0, 1) := by decide +kernel
theorem dX4_demandOf_30 : decode cX4_demandOf 30 = .ok (.getfield 16, 3) := by decide +kernel
theorem dX4_demandOf_33 : decode cX4_demandOf 33 = .ok (.if_icmp .ge 31, 3) := by decide +kernel
theorem dX4_demandOf_36 : decode cX4_demandOf 36 = .ok (.iload_n 2, 1) := by decide +kernel
theorem dX4_demandOf_37 : decode cX4_demandOf 37 = .ok (.aload_n 0, 1) := by decide +kernel
theorem dX4_demandOf_38 : decode cX4_demandOf 38 = .ok (.getfield 19, 3) := by decide +kernel
theorem dX4_demandOf_41 : decode cX4_demandOf 41 = .ok (.iload_n 3, 1) := by decide +kernel
theorem dX4_demandOf_42 : decode cX4_demandOf 42 = .ok (.iaload, 1) := by decide +kernel
theorem dX4_demandOf_43 : decode cX4_demandOf 43 = .ok (.iload_n 1, 1) := by decide +kernel
theorem dX4_demandOf_44 : decode cX4_demandOf 44 = .ok (.if_icmp .ne 11, 3) := by decide +kernel
theorem dX4_demandOf_47 : decode cX4_demandOf 47 = .ok (.aload_n 0, 1) := by decide +kernel
theorem dX4_demandOf_48 : decode cX4_demandOf 48 = .ok (.iload_n 3, 1) := by decide +kernel
theorem dX4_demandOf_49 : decode cX4_demandOf 49 = .ok (.invokevirtual 106, 3) := by decide +kernel
theorem dX4_demandOf_52 : decode cX4_demandOf 52 = .ok (.goto 4, 3) := by decide +kernel
theorem dX4_demandOf_55 : decode cX4_demandOf 55 = .ok (.iconst 0, 1) := by decide +kernel
theorem dX4_demandOf_56 : decode cX4_demandOf 56 = .ok (.iadd, 1) := by decide +kernel
theorem dX4_demandOf_57 : decode cX4_demandOf 57 = .ok (.istore_n 2, 1) := by decide +kernel
theorem dX4_demandOf_58 : decode cX4_demandOf 58 = .ok (.iinc 3 1, 3) := by decide +kernel
theorem dX4_demandOf_61 : decode cX4_demandOf 61 = .ok (.goto (-33), 3) := by decide +kernel
theorem dX4_demandOf_64 : decode cX4_demandOf 64 = .ok (.iload_n 1, 1) := by decide +kernel
theorem dX4_demandOf_65 : decode cX4_demandOf 65 = .ok (.ifCond .le 22, 3) := by decide +kernel
theorem dX4_demandOf_68 : decode cX4_demandOf 68 = .ok (.iload_n 2, 1) := by decide +kernel
theorem dX4_demandOf_69 : decode cX4_demandOf 69 = .ok (.aload_n 0, 1) := by decide +kernel
theorem dX4_demandOf_70 : decode cX4_demandOf 70 = .ok (.getfield 26, 3) := by decide +kernel
theorem dX4_demandOf_73 : decode cX4_demandOf 73 = .ok (.iload_n 1, 1) := by decide +kernel
theorem dX4_demandOf_74 : decode cX4_demandOf 74 = .ok (.iaload, 1) := by decide +kernel
theorem dX4_demandOf_75 : decode cX4_demandOf 75 = .ok (.if_icmp .le 12, 3) := by decide +kernel
theorem dX4_demandOf_78 : decode cX4_demandOf 78 = .ok (.aload_n 0, 1) := by decide +kernel
theorem dX4_demandOf_79 : decode cX4_demandOf 79 = .ok (.getfield 26, 3) := by decide +kernel
theorem dX4_demandOf_82 : decode cX4_demandOf 82 = .ok (.iload_n 1, 1) := by decide +kernel
theorem dX4_demandOf_83 : decode cX4_demandOf 83 = .ok (.iaload, 1) := by decide +kernel
theorem dX4_demandOf_84 : decode cX4_demandOf 84 = .ok (.goto 4, 3) := by decide +kernel
theorem dX4_demandOf_87 : decode cX4_demandOf 87 = .ok (.iload_n 2, 1) := by decide +kernel
theorem dX4_demandOf_88 : decode cX4_demandOf 88 = .ok (.ireturn, 1) := by decide +kernel
theorem dX4_gives_0 : decode cX4_gives 0 = .ok (.iconst 0, 1) := by decide +kernel
theorem dX4_gives_1 : decode cX4_gives 1 = .ok (.istore_n 2, 1) := by decide +kernel
theorem dX4_gives_2 : decode cX4_gives 2 = .ok (.iload_n 2, 1) := by decide +kernel
theorem dX4_gives_3 : decode cX4_gives 3 = .ok (.aload_n 0, 1) := by decide +kernel
theorem dX4_gives_4 : decode cX4_gives 4 = .ok (.getfield 79, 3) := by decide +kernel
theorem dX4_gives_7 : decode cX4_gives 7 = .ok (.iload_n 1, 1) := by decide +kernel
theorem dX4_gives_8 : decode cX4_gives 8 = .ok (.iaload, 1) := by decide +kernel
theorem dX4_gives_9 : decode cX4_gives 9 = .ok (.if_icmp .ge 111, 3) := by decide +kernel
theorem dX4_gives_12 : decode cX4_gives 12 = .ok (.iconst (-1), 1) := by decide +kernel
theorem dX4_gives_13 : decode cX4_gives 13 = .ok (.istore_n 3, 1) := by decide +kernel
theorem dX4_gives_14 : decode cX4_gives 14 = .ok (.iconst 1, 1) := by decide +kernel
theorem dX4_gives_15 : decode cX4_gives 15 = .ok (.istore 4, 2) := by decide +kernel
theorem dX4_gives_17 : decode cX4_gives 17 = .ok (.iload 4, 2) := by decide +kernel
theorem dX4_gives_19 : decode cX4_gives 19 = .ok (.aload_n 0, 1) := by decide +kernel
theorem dX4_gives_20 : decode cX4_gives 20 = .ok (.getfield 16, 3) := by decide +kernel
theorem dX4_gives_23 : decode cX4_gives 23 = .ok (.if_icmp .ge 76, 3) := by decide +kernel
theorem dX4_gives_26 : decode cX4_gives 26 = .ok (.aload_n 0, 1) := by decide +kernel
theorem dX4_gives_27 : decode cX4_gives 27 = .ok (.getfield 19, 3) := by decide +kernel
theorem dX4_gives_30 : decode cX4_gives 30 = .ok (.iload 4, 2) := by decide +kernel
theorem dX4_gives_32 : decode cX4_gives 32 = .ok (.iaload, 1) := by decide +kernel
theorem dX4_gives_33 : decode cX4_gives 33 = .ok (.iload_n 1, 1) := by decide +kernel
theorem dX4_gives_34 : decode cX4_gives 34 = .ok (.if_icmp .ne 59, 3) := by decide +kernel
theorem dX4_gives_37 : decode cX4_gives 37 = .ok (.aload_n 0, 1) := by decide +kernel
theorem dX4_gives_38 : decode cX4_gives 38 = .ok (.getfield 79, 3) := by decide +kernel
theorem dX4_gives_41 : decode cX4_gives 41 = .ok (.iload 4, 2) := by decide +kernel
theorem dX4_gives_43 : decode cX4_gives 43 = .ok (.iaload, 1) := by decide +kernel
theorem dX4_gives_44 : decode cX4_gives 44 = .ok (.aload_n 0, 1) := by decide +kernel
theorem dX4_gives_45 : decode cX4_gives 45 = .ok (.getfield 76, 3) := by decide +kernel
theorem dX4_gives_48 : decode cX4_gives 48 = .ok (.iload 4, 2) := by decide +kernel
theorem dX4_gives_50 : decode cX4_gives 50 = .ok (.iaload, 1) := by decide +kernel
theorem dX4_gives_51 : decode cX4_gives 51 = .ok (.if_icmp .ge 42, 3) := by decide +kernel
theorem dX4_gives_54 : decode cX4_gives 54 = .ok (.iload_n 3, 1) := by decide +kernel
theorem dX4_gives_55 : decode cX4_gives 55 = .ok (.iconst (-1), 1) := by decide +kernel
theorem dX4_gives_56 : decode cX4_gives 56 = .ok (.if_icmp .eq 34, 3) := by decide +kernel
theorem dX4_gives_59 : decode cX4_gives 59 = .ok (.aload_n 0, 1) := by decide +kernel
theorem dX4_gives_60 : decode cX4_gives 60 = .ok (.getfield 79, 3) := by decide +kernel
theorem dX4_gives_63 : decode cX4_gives 63 = .ok (.iload 4, 2) := by decide +kernel
theorem dX4_gives_65 : decode cX4_gives 65 = .ok (.iaload, 1) := by decide +kernel
theorem dX4_gives_66 : decode cX4_gives 66 = .ok (.aload_n 0, 1) := by decide +kernel
theorem dX4_gives_67 : decode cX4_gives 67 = .ok (.getfield 23, 3) := by decide +kernel
theorem dX4_gives_70 : decode cX4_gives 70 = .ok (.iload_n 3, 1) := by decide +kernel
theorem dX4_gives_71 : decode cX4_gives 71 = .ok (.iaload, 1) := by decide +kernel
theorem dX4_gives_72 : decode cX4_gives 72 = .ok (.imul, 1) := by decide +kernel
theorem dX4_gives_73 : decode cX4_gives 73 = .ok (.aload_n 0, 1) := by decide +kernel
theorem dX4_gives_74 : decode cX4_gives 74 = .ok (.getfield 79, 3) := by decide +kernel
theorem dX4_gives_77 : decode cX4_gives 77 = .ok (.iload_n 3, 1) := by decide +kernel
theorem dX4_gives_78 : decode cX4_gives 78 = .ok (.iaload, 1) := by decide +kernel
theorem dX4_gives_79 : decode cX4_gives 79 = .ok (.aload_n 0, 1) := by decide +kernel
theorem dX4_gives_80 : decode cX4_gives 80 = .ok (.getfield 23, 3) := by decide +kernel
theorem dX4_gives_83 : decode cX4_gives 83 = .ok (.iload 4, 2) := by decide +kernel
theorem dX4_gives_85 : decode cX4_gives 85 = .ok (.iaload, 1) := by decide +kernel
theorem dX4_gives_86 : decode cX4_gives 86 = .ok (.imul, 1) := by decide +kernel
theorem dX4_gives_87 : decode cX4_gives 87 = .ok (.if_icmp .ge 6, 3) := by decide +kernel
theorem dX4_gives_90 : decode cX4_gives 90 = .ok (.iload 4, 2) := by decide +kernel
theorem dX4_gives_92 : decode cX4_gives 92 = .ok (.istore_n 3, 1) := by decide +kernel
theorem dX4_gives_93 : decode cX4_gives 93 = .ok (.iinc 4 1, 3) := by decide +kernel
theorem dX4_gives_96 : decode cX4_gives 96 = .ok (.goto (-79), 3) := by decide +kernel
theorem dX4_gives_99 : decode cX4_gives 99 = .ok (.iload_n 3, 1) := by decide +kernel
theorem dX4_gives_100 : decode cX4_gives 100 = .ok (.iconst (-1), 1) := by decide +kernel
theorem dX4_gives_101 : decode cX4_gives 101 = .ok (.if_icmp .eq 13, 3) := by decide +kernel
theorem dX4_gives_104 : decode cX4_gives 104 = .ok (.aload_n 0, 1) := by decide +kernel
theorem dX4_gives_105 : decode cX4_gives 105 = .ok (.getfield 79, 3) := by decide +kernel
theorem dX4_gives_108 : decode cX4_gives 108 = .ok (.iload_n 3, 1) := by decide +kernel
theorem dX4_gives_109 : decode cX4_gives 109 = .ok (.dup2, 1) := by decide +kernel
theorem dX4_gives_110 : decode cX4_gives 110 = .ok (.iaload, 1) := by decide +kernel
theorem dX4_gives_111 : decode cX4_gives 111 = .ok (.iconst 1, 1) := by decide +kernel
theorem dX4_gives_112 : decode cX4_gives 112 = .ok (.iadd, 1) := by decide +kernel
theorem dX4_gives_113 : decode cX4_gives 113 = .ok (.iastore, 1) := by decide +kernel
theorem dX4_gives_114 : decode cX4_gives 114 = .ok (.iinc 2 1, 3) := by decide +kernel
theorem dX4_gives_117 : decode cX4_gives 117 = .ok (.goto (-115), 3) := by decide +kernel
theorem dX4_gives_120 : decode cX4_gives 120 = .ok (.return_, 1) := by decide +kernel
theorem dX4_laysShares_0 : decode cX4_laysShares 0 = .ok (.iconst 0, 1) := by decide +kernel
theorem dX4_laysShares_1 : decode cX4_laysShares 1 = .ok (.istore_n 1, 1) := by decide +kernel
theorem dX4_laysShares_2 : decode cX4_laysShares 2 = .ok (.iload_n 1, 1) := by decide +kernel
theorem dX4_laysShares_3 : decode cX4_laysShares 3 = .ok (.aload_n 0, 1) := by decide +kernel
theorem dX4_laysShares_4 : decode cX4_laysShares 4 = .ok (.getfield 16, 3) := by decide +kernel
theorem dX4_laysShares_7 : decode cX4_laysShares 7 = .ok (.if_icmp .ge 27, 3) := by decide +kernel
theorem dX4_laysShares_10 : decode cX4_laysShares 10 = .ok (.aload_n 0, 1) := by decide +kernel
theorem dX4_laysShares_11 : decode cX4_laysShares 11 = .ok (.getfield 76, 3) := by decide +kernel
theorem dX4_laysShares_14 : decode cX4_laysShares 14 = .ok (.iload_n 1, 1) := by decide +kernel
theorem dX4_laysShares_15 : decode cX4_laysShares 15 = .ok (.aload_n 0, 1) := by decide +kernel
theorem dX4_laysShares_16 : decode cX4_laysShares 16 = .ok (.iload_n 1, 1) := by decide +kernel
theorem dX4_laysShares_17 : decode cX4_laysShares 17 = .ok (.invokevirtual 106, 3) := by decide +kernel
theorem dX4_laysShares_20 : decode cX4_laysShares 20 = .ok (.iastore, 1) := by decide +kernel
theorem dX4_laysShares_21 : decode cX4_laysShares 21 = .ok (.aload_n 0, 1) := by decide +kernel
theorem dX4_laysShares_22 : decode cX4_laysShares 22 = .ok (.getfield 79, 3) := by decide +kernel
theorem dX4_laysShares_25 : decode cX4_laysShares 25 = .ok (.iload_n 1, 1) := by decide +kernel
theorem dX4_laysShares_26 : decode cX4_laysShares 26 = .ok (.iconst 0, 1) := by decide +kernel
theorem dX4_laysShares_27 : decode cX4_laysShares 27 = .ok (.iastore, 1) := by decide +kernel
theorem dX4_laysShares_28 : decode cX4_laysShares 28 = .ok (.iinc 1 1, 3) := by decide +kernel
theorem dX4_laysShares_31 : decode cX4_laysShares 31 = .ok (.goto (-29), 3) := by decide +kernel
theorem dX4_laysShares_34 : decode cX4_laysShares 34 = .ok (.aload_n 0, 1) := by decide +kernel
theorem dX4_laysShares_35 : decode cX4_laysShares 35 = .ok (.getfield 79, 3) := by decide +kernel
theorem dX4_laysShares_38 : decode cX4_laysShares 38 = .ok (.iconst 0, 1) := by decide +kernel
theorem dX4_laysShares_39 : decode cX4_laysShares 39 = .ok (.aload_n 0, 1) := by decide +kernel
theorem dX4_laysShares_40 : decode cX4_laysShares 40 = .ok (.getfield 76, 3) := by decide +kernel
theorem dX4_laysShares_43 : decode cX4_laysShares 43 = .ok (.iconst 0, 1) := by decide +kernel
theorem dX4_laysShares_44 : decode cX4_laysShares 44 = .ok (.iaload, 1) := by decide +kernel
theorem dX4_laysShares_45 : decode cX4_laysShares 45 = .ok (.aload_n 0, 1) := by decide +kernel
theorem dX4_laysShares_46 : decode cX4_laysShares 46 = .ok (.getfield 7, 3) := by decide +kernel
theorem dX4_laysShares_49 : decode cX4_laysShares 49 = .ok (.if_icmp .ge 12, 3) := by decide +kernel
theorem dX4_laysShares_52 : decode cX4_laysShares 52 = .ok (.aload_n 0, 1) := by decide +kernel
theorem dX4_laysShares_53 : decode cX4_laysShares 53 = .ok (.getfield 76, 3) := by decide +kernel
theorem dX4_laysShares_56 : decode cX4_laysShares 56 = .ok (.iconst 0, 1) := by decide +kernel
theorem dX4_laysShares_57 : decode cX4_laysShares 57 = .ok (.iaload, 1) := by decide +kernel
theorem dX4_laysShares_58 : decode cX4_laysShares 58 = .ok (.goto 7, 3) := by decide +kernel
theorem dX4_laysShares_61 : decode cX4_laysShares 61 = .ok (.aload_n 0, 1) := by decide +kernel
theorem dX4_laysShares_62 : decode cX4_laysShares 62 = .ok (.getfield 7, 3) := by decide +kernel
theorem dX4_laysShares_65 : decode cX4_laysShares 65 = .ok (.iastore, 1) := by decide +kernel
theorem dX4_laysShares_66 : decode cX4_laysShares 66 = .ok (.iconst 0, 1) := by decide +kernel
theorem dX4_laysShares_67 : decode cX4_laysShares 67 = .ok (.istore_n 1, 1) := by decide +kernel
theorem dX4_laysShares_68 : decode cX4_laysShares 68 = .ok (.iload_n 1, 1) := by decide +kernel
theorem dX4_laysShares_69 : decode cX4_laysShares 69 = .ok (.aload_n 0, 1) := by decide +kernel
theorem dX4_laysShares_70 : decode cX4_laysShares 70 = .ok (.getfield 16, 3) := by decide +kernel
theorem dX4_laysShares_73 : decode cX4_laysShares 73 = .ok (.if_icmp .ge 14, 3) := by decide +kernel
theorem dX4_laysShares_76 : decode cX4_laysShares 76 = .ok (.aload_n 0, 1) := by decide +kernel
theorem dX4_laysShares_77 : decode cX4_laysShares 77 = .ok (.iload_n 1, 1) := by decide +kernel
theorem dX4_laysShares_78 : decode cX4_laysShares 78 = .ok (.invokevirtual 109, 3) := by decide +kernel
theorem dX4_laysShares_81 : decode cX4_laysShares 81 = .ok (.iinc 1 1, 3) := by decide +kernel
theorem dX4_laysShares_84 : decode cX4_laysShares 84 = .ok (.goto (-16), 3) := by decide +kernel
theorem dX4_laysShares_87 : decode cX4_laysShares 87 = .ok (.return_, 1) := by decide +kernel
theorem dX4_reservedFor_0 : decode cX4_reservedFor 0 = .ok (.iconst 0, 1) := by decide +kernel
theorem dX4_reservedFor_1 : decode cX4_reservedFor 1 = .ok (.istore_n 2, 1) := by decide +kernel
theorem dX4_reservedFor_2 : decode cX4_reservedFor 2 = .ok (.iconst 0, 1) := by decide +kernel
theorem dX4_reservedFor_3 : decode cX4_reservedFor 3 = .ok (.istore_n 3, 1) := by decide +kernel
theorem dX4_reservedFor_4 : decode cX4_reservedFor 4 = .ok (.iload_n 3, 1) := by decide +kernel
theorem dX4_reservedFor_5 : decode cX4_reservedFor 5 = .ok (.aload_n 0, 1) := by decide +kernel
theorem dX4_reservedFor_6 : decode cX4_reservedFor 6 = .ok (.getfield 113, 3) := by decide +kernel
theorem dX4_reservedFor_9 : decode cX4_reservedFor 9 = .ok (.if_icmp .ge 58, 3) := by decide +kernel
theorem dX4_reservedFor_12 : decode cX4_reservedFor 12 = .ok (.iload_n 2, 1) := by decide +kernel
theorem dX4_reservedFor_13 : decode cX4_reservedFor 13 = .ok (.aload_n 0, 1) := by decide +kernel
theorem dX4_reservedFor_14 : decode cX4_reservedFor 14 = .ok (.getfield 64, 3) := by decide +kernel
theorem dX4_reservedFor_17 : decode cX4_reservedFor 17 = .ok (.iload_n 3, 1) := by decide +kernel
theorem dX4_reservedFor_18 : decode cX4_reservedFor 18 = .ok (.iaload, 1) := by decide +kernel
theorem dX4_reservedFor_19 : decode cX4_reservedFor 19 = .ok (.iload_n 1, 1) := by decide +kernel
theorem dX4_reservedFor_20 : decode cX4_reservedFor 20 = .ok (.if_icmp .ne 38, 3) := by decide +kernel
theorem dX4_reservedFor_23 : decode cX4_reservedFor 23 = .ok (.aload_n 0, 1) := by decide +kernel
theorem dX4_reservedFor_24 : decode cX4_reservedFor 24 = .ok (.getfield 116, 3) := by decide +kernel
theorem dX4_reservedFor_27 : decode cX4_reservedFor 27 = .ok (.aload_n 0, 1) := by decide +kernel
theorem dX4_reservedFor_28 : decode cX4_reservedFor 28 = .ok (.getfield 70, 3) := by decide +kernel
theorem dX4_reservedFor_31 : decode cX4_reservedFor 31 = .ok (.iload_n 3, 1) := by decide +kernel
theorem dX4_reservedFor_32 : decode cX4_reservedFor 32 = .ok (.iaload, 1) := by decide +kernel
theorem dX4_reservedFor_33 : decode cX4_reservedFor 33 = .ok (.if_icmp .lt 25, 3) := by decide +kernel
theorem dX4_reservedFor_36 : decode cX4_reservedFor 36 = .ok (.aload_n 0, 1) := by decide +kernel
theorem dX4_reservedFor_37 : decode cX4_reservedFor 37 = .ok (.getfield 116, 3) := by decide +kernel
theorem dX4_reservedFor_40 : decode cX4_reservedFor 40 = .ok (.aload_n 0, 1) := by decide +kernel
theorem dX4_reservedFor_41 : decode cX4_reservedFor 41 = .ok (.getfield 73, 3) := by decide +kernel
theorem dX4_reservedFor_44 : decode cX4_reservedFor 44 = .ok (.iload_n 3, 1) := by decide +kernel
theorem dX4_reservedFor_45 : decode cX4_reservedFor 45 = .ok (.iaload, 1) := by decide +kernel
theorem dX4_reservedFor_46 : decode cX4_reservedFor 46 = .ok (.if_icmp .ge 12, 3) := by decide +kernel
theorem dX4_reservedFor_49 : decode cX4_reservedFor 49 = .ok (.aload_n 0, 1) := by decide +kernel
theorem dX4_reservedFor_50 : decode cX4_reservedFor 50 = .ok (.getfield 67, 3) := by decide +kernel
theorem dX4_reservedFor_53 : decode cX4_reservedFor 53 = .ok (.iload_n 3, 1) := by decide +kernel
theorem dX4_reservedFor_54 : decode cX4_reservedFor 54 = .ok (.iaload, 1) := by decide +kernel
theorem dX4_reservedFor_55 : decode cX4_reservedFor 55 = .ok (.goto 4, 3) := by decide +kernel
theorem dX4_reservedFor_58 : decode cX4_reservedFor 58 = .ok (.iconst 0, 1) := by decide +kernel
theorem dX4_reservedFor_59 : decode cX4_reservedFor 59 = .ok (.iadd, 1) := by decide +kernel
theorem dX4_reservedFor_60 : decode cX4_reservedFor 60 = .ok (.istore_n 2, 1) := by decide +kernel
theorem dX4_reservedFor_61 : decode cX4_reservedFor 61 = .ok (.iinc 3 1, 3) := by decide +kernel
theorem dX4_reservedFor_64 : decode cX4_reservedFor 64 = .ok (.goto (-60), 3) := by decide +kernel
theorem dX4_reservedFor_67 : decode cX4_reservedFor 67 = .ok (.iload_n 2, 1) := by decide +kernel
theorem dX4_reservedFor_68 : decode cX4_reservedFor 68 = .ok (.ireturn, 1) := by decide +kernel
theorem dX4_dueOf_0 : decode cX4_dueOf 0 = .ok (.aload_n 0, 1) := by decide +kernel
theorem dX4_dueOf_1 : decode cX4_dueOf 1 = .ok (.iload_n 1, 1) := by decide +kernel
theorem dX4_dueOf_2 : decode cX4_dueOf 2 = .ok (.invokevirtual 119, 3) := by decide +kernel
theorem dX4_dueOf_5 : decode cX4_dueOf 5 = .ok (.istore_n 2, 1) := by decide +kernel
theorem dX4_dueOf_6 : decode cX4_dueOf 6 = .ok (.iload_n 2, 1) := by decide +kernel
theorem dX4_dueOf_7 : decode cX4_dueOf 7 = .ok (.aload_n 0, 1) := by decide +kernel
theorem dX4_dueOf_8 : decode cX4_dueOf 8 = .ok (.getfield 79, 3) := by decide +kernel
theorem dX4_dueOf_11 : decode cX4_dueOf 11 = .ok (.iload_n 1, 1) := by decide +kernel
theorem dX4_dueOf_12 : decode cX4_dueOf 12 = .ok (.iaload, 1) := by decide +kernel
theorem dX4_dueOf_13 : decode cX4_dueOf 13 = .ok (.if_icmp .le 7, 3) := by decide +kernel
theorem dX4_dueOf_16 : decode cX4_dueOf 16 = .ok (.iload_n 2, 1) := by decide +kernel
theorem dX4_dueOf_17 : decode cX4_dueOf 17 = .ok (.goto 9, 3) := by decide +kernel
theorem dX4_dueOf_20 : decode cX4_dueOf 20 = .ok (.aload_n 0, 1) := by decide +kernel
theorem dX4_dueOf_21 : decode cX4_dueOf 21 = .ok (.getfield 79, 3) := by decide +kernel
theorem dX4_dueOf_24 : decode cX4_dueOf 24 = .ok (.iload_n 1, 1) := by decide +kernel
theorem dX4_dueOf_25 : decode cX4_dueOf 25 = .ok (.iaload, 1) := by decide +kernel
theorem dX4_dueOf_26 : decode cX4_dueOf 26 = .ok (.ireturn, 1) := by decide +kernel
theorem dX4_freeOf_0 : decode cX4_freeOf 0 = .ok (.aload_n 0, 1) := by decide +kernel
theorem dX4_freeOf_1 : decode cX4_freeOf 1 = .ok (.getfield 7, 3) := by decide +kernel
theorem dX4_freeOf_4 : decode cX4_freeOf 4 = .ok (.aload_n 0, 1) := by decide +kernel
theorem dX4_freeOf_5 : decode cX4_freeOf 5 = .ok (.getfield 37, 3) := by decide +kernel
theorem dX4_freeOf_8 : decode cX4_freeOf 8 = .ok (.iconst 0, 1) := by decide +kernel
theorem dX4_freeOf_9 : decode cX4_freeOf 9 = .ok (.iaload, 1) := by decide +kernel
theorem dX4_freeOf_10 : decode cX4_freeOf 10 = .ok (.isub, 1) := by decide +kernel
theorem dX4_freeOf_11 : decode cX4_freeOf 11 = .ok (.istore_n 2, 1) := by decide +kernel
theorem dX4_freeOf_12 : decode cX4_freeOf 12 = .ok (.iconst 0, 1) := by decide +kernel
theorem dX4_freeOf_13 : decode cX4_freeOf 13 = .ok (.istore_n 3, 1) := by decide +kernel
theorem dX4_freeOf_14 : decode cX4_freeOf 14 = .ok (.iload_n 3, 1) := by decide +kernel
theorem dX4_freeOf_15 : decode cX4_freeOf 15 = .ok (.aload_n 0, 1) := by decide +kernel
theorem dX4_freeOf_16 : decode cX4_freeOf 16 = .ok (.getfield 16, 3) := by decide +kernel
theorem dX4_freeOf_19 : decode cX4_freeOf 19 = .ok (.if_icmp .ge 54, 3) := by decide +kernel
theorem dX4_freeOf_22 : decode cX4_freeOf 22 = .ok (.iload_n 3, 1) := by decide +kernel
theorem dX4_freeOf_23 : decode cX4_freeOf 23 = .ok (.iload_n 1, 1) := by decide +kernel
theorem dX4_freeOf_24 : decode cX4_freeOf 24 = .ok (.if_icmp .eq 11, 3) := by decide +kernel
theorem dX4_freeOf_27 : decode cX4_freeOf 27 = .ok (.aload_n 0, 1) := by decide +kernel
theorem dX4_freeOf_28 : decode cX4_freeOf 28 = .ok (.iload_n 3, 1) := by decide +kernel
theorem dX4_freeOf_29 : decode cX4_freeOf 29 = .ok (.invokevirtual 103, 3) := by decide +kernel
theorem dX4_freeOf_32 : decode cX4_freeOf 32 = .ok (.ifCond .ne 7, 3) := by decide +kernel
theorem dX4_freeOf_35 : decode cX4_freeOf 35 = .ok (.iconst 0, 1) := by decide +kernel
theorem dX4_freeOf_36 : decode cX4_freeOf 36 = .ok (.goto 15, 3) := by decide +kernel
theorem dX4_freeOf_39 : decode cX4_freeOf 39 = .ok (.aload_n 0, 1) := by decide +kernel
theorem dX4_freeOf_40 : decode cX4_freeOf 40 = .ok (.iload_n 3, 1) := by decide +kernel
theorem dX4_freeOf_41 : decode cX4_freeOf 41 = .ok (.invokevirtual 119, 3) := by decide +kernel
theorem dX4_freeOf_44 : decode cX4_freeOf 44 = .ok (.aload_n 0, 1) := by decide +kernel
theorem dX4_freeOf_45 : decode cX4_freeOf 45 = .ok (.getfield 37, 3) := by decide +kernel
theorem dX4_freeOf_48 : decode cX4_freeOf 48 = .ok (.iload_n 3, 1) := by decide +kernel
theorem dX4_freeOf_49 : decode cX4_freeOf 49 = .ok (.iaload, 1) := by decide +kernel
theorem dX4_freeOf_50 : decode cX4_freeOf 50 = .ok (.isub, 1) := by decide +kernel
theorem dX4_freeOf_51 : decode cX4_freeOf 51 = .ok (.istore 4, 2) := by decide +kernel
theorem dX4_freeOf_53 : decode cX4_freeOf 53 = .ok (.iload_n 2, 1) := by decide +kernel
theorem dX4_freeOf_54 : decode cX4_freeOf 54 = .ok (.iload 4, 2) := by decide +kernel
theorem dX4_freeOf_56 : decode cX4_freeOf 56 = .ok (.ifCond .le 8, 3) := by decide +kernel
theorem dX4_freeOf_59 : decode cX4_freeOf 59 = .ok (.iload 4, 2) := by decide +kernel
theorem dX4_freeOf_61 : decode cX4_freeOf 61 = .ok (.goto 4, 3) := by decide +kernel
theorem dX4_freeOf_64 : decode cX4_freeOf 64 = .ok (.iconst 0, 1) := by decide +kernel
theorem dX4_freeOf_65 : decode cX4_freeOf 65 = .ok (.isub, 1) := by decide +kernel
theorem dX4_freeOf_66 : decode cX4_freeOf 66 = .ok (.istore_n 2, 1) := by decide +kernel
theorem dX4_freeOf_67 : decode cX4_freeOf 67 = .ok (.iinc 3 1, 3) := by decide +kernel
theorem dX4_freeOf_70 : decode cX4_freeOf 70 = .ok (.goto (-56), 3) := by decide +kernel
theorem dX4_freeOf_73 : decode cX4_freeOf 73 = .ok (.iload_n 2, 1) := by decide +kernel
theorem dX4_freeOf_74 : decode cX4_freeOf 74 = .ok (.ireturn, 1) := by decide +kernel
theorem dX4_firstJob_0 : decode cX4_firstJob 0 = .ok (.iconst 0, 1) := by decide +kernel
theorem dX4_firstJob_1 : decode cX4_firstJob 1 = .ok (.istore_n 2, 1) := by decide +kernel
theorem dX4_firstJob_2 : decode cX4_firstJob 2 = .ok (.iload_n 2, 1) := by decide +kernel
theorem dX4_firstJob_3 : decode cX4_firstJob 3 = .ok (.aload_n 0, 1) := by decide +kernel
theorem dX4_firstJob_4 : decode cX4_firstJob 4 = .ok (.getfield 122, 3) := by decide +kernel
theorem dX4_firstJob_7 : decode cX4_firstJob 7 = .ok (.if_icmp .ge 39, 3) := by decide +kernel
theorem dX4_firstJob_10 : decode cX4_firstJob 10 = .ok (.aload_n 0, 1) := by decide +kernel
theorem dX4_firstJob_11 : decode cX4_firstJob 11 = .ok (.getfield 40, 3) := by decide +kernel
theorem dX4_firstJob_14 : decode cX4_firstJob 14 = .ok (.iload_n 1, 1) := by decide +kernel
theorem dX4_firstJob_15 : decode cX4_firstJob 15 = .ok (.iaload, 1) := by decide +kernel
theorem dX4_firstJob_16 : decode cX4_firstJob 16 = .ok (.ifCond .le 30, 3) := by decide +kernel
theorem dX4_firstJob_19 : decode cX4_firstJob 19 = .ok (.aload_n 0, 1) := by decide +kernel
theorem dX4_firstJob_20 : decode cX4_firstJob 20 = .ok (.getfield 43, 3) := by decide +kernel
theorem dX4_firstJob_23 : decode cX4_firstJob 23 = .ok (.iload_n 2, 1) := by decide +kernel
theorem dX4_firstJob_24 : decode cX4_firstJob 24 = .ok (.iaload, 1) := by decide +kernel
theorem dX4_firstJob_25 : decode cX4_firstJob 25 = .ok (.iload_n 1, 1) := by decide +kernel
theorem dX4_firstJob_26 : decode cX4_firstJob 26 = .ok (.if_icmp .ne 14, 3) := by decide +kernel
theorem dX4_firstJob_29 : decode cX4_firstJob 29 = .ok (.aload_n 0, 1) := by decide +kernel
theorem dX4_firstJob_30 : decode cX4_firstJob 30 = .ok (.getfield 55, 3) := by decide +kernel
theorem dX4_firstJob_33 : decode cX4_firstJob 33 = .ok (.iload_n 2, 1) := by decide +kernel
theorem dX4_firstJob_34 : decode cX4_firstJob 34 = .ok (.iaload, 1) := by decide +kernel
theorem dX4_firstJob_35 : decode cX4_firstJob 35 = .ok (.ifCond .ne 5, 3) := by decide +kernel
theorem dX4_firstJob_38 : decode cX4_firstJob 38 = .ok (.iload_n 2, 1) := by decide +kernel
theorem dX4_firstJob_39 : decode cX4_firstJob 39 = .ok (.ireturn, 1) := by decide +kernel
theorem dX4_firstJob_40 : decode cX4_firstJob 40 = .ok (.iinc 2 1, 3) := by decide +kernel
theorem dX4_firstJob_43 : decode cX4_firstJob 43 = .ok (.goto (-41), 3) := by decide +kernel
theorem dX4_firstJob_46 : decode cX4_firstJob 46 = .ok (.iconst (-1), 1) := by decide +kernel
theorem dX4_firstJob_47 : decode cX4_firstJob 47 = .ok (.ireturn, 1) := by decide +kernel
theorem dX4_isAhead_0 : decode cX4_isAhead 0 = .ok (.aload_n 0, 1) := by decide +kernel
theorem dX4_isAhead_1 : decode cX4_isAhead 1 = .ok (.getfield 29, 3) := by decide +kernel
theorem dX4_isAhead_4 : decode cX4_isAhead 4 = .ok (.iload_n 1, 1) := by decide +kernel
theorem dX4_isAhead_5 : decode cX4_isAhead 5 = .ok (.laload, 1) := by decide +kernel
theorem dX4_isAhead_6 : decode cX4_isAhead 6 = .ok (.aload_n 0, 1) := by decide +kernel
theorem dX4_isAhead_7 : decode cX4_isAhead 7 = .ok (.getfield 23, 3) := by decide +kernel
theorem dX4_isAhead_10 : decode cX4_isAhead 10 = .ok (.iload_n 2, 1) := by decide +kernel
theorem dX4_isAhead_11 : decode cX4_isAhead 11 = .ok (.iaload, 1) := by decide +kernel
theorem dX4_isAhead_12 : decode cX4_isAhead 12 = .ok (.i2l, 1) := by decide +kernel
theorem dX4_isAhead_13 : decode cX4_isAhead 13 = .ok (.lmul, 1) := by decide +kernel
theorem dX4_isAhead_14 : decode cX4_isAhead 14 = .ok (.lstore_n 3, 1) := by decide +kernel
theorem dX4_isAhead_15 : decode cX4_isAhead 15 = .ok (.aload_n 0, 1) := by decide +kernel
theorem dX4_isAhead_16 : decode cX4_isAhead 16 = .ok (.getfield 29, 3) := by decide +kernel
theorem dX4_isAhead_19 : decode cX4_isAhead 19 = .ok (.iload_n 2, 1) := by decide +kernel
theorem dX4_isAhead_20 : decode cX4_isAhead 20 = .ok (.laload, 1) := by decide +kernel
theorem dX4_isAhead_21 : decode cX4_isAhead 21 = .ok (.aload_n 0, 1) := by decide +kernel
theorem dX4_isAhead_22 : decode cX4_isAhead 22 = .ok (.getfield 23, 3) := by decide +kernel
theorem dX4_isAhead_25 : decode cX4_isAhead 25 = .ok (.iload_n 1, 1) := by decide +kernel
theorem dX4_isAhead_26 : decode cX4_isAhead 26 = .ok (.iaload, 1) := by decide +kernel
theorem dX4_isAhead_27 : decode cX4_isAhead 27 = .ok (.i2l, 1) := by decide +kernel
theorem dX4_isAhead_28 : decode cX4_isAhead 28 = .ok (.lmul, 1) := by decide +kernel
theorem dX4_isAhead_29 : decode cX4_isAhead 29 = .ok (.lstore 5, 2) := by decide +kernel
theorem dX4_isAhead_31 : decode cX4_isAhead 31 = .ok (.lload_n 3, 1) := by decide +kernel
theorem dX4_isAhead_32 : decode cX4_isAhead 32 = .ok (.lload 5, 2) := by decide +kernel
theorem dX4_isAhead_34 : decode cX4_isAhead 34 = .ok (.lcmp, 1) := by decide +kernel
theorem dX4_isAhead_35 : decode cX4_isAhead 35 = .ok (.ifCond .eq 18, 3) := by decide +kernel
theorem dX4_isAhead_38 : decode cX4_isAhead 38 = .ok (.lload_n 3, 1) := by decide +kernel
theorem dX4_isAhead_39 : decode cX4_isAhead 39 = .ok (.lload 5, 2) := by decide +kernel
theorem dX4_isAhead_41 : decode cX4_isAhead 41 = .ok (.lcmp, 1) := by decide +kernel
theorem dX4_isAhead_42 : decode cX4_isAhead 42 = .ok (.ifCond .ge 7, 3) := by decide +kernel
theorem dX4_isAhead_45 : decode cX4_isAhead 45 = .ok (.iconst 1, 1) := by decide +kernel
theorem dX4_isAhead_46 : decode cX4_isAhead 46 = .ok (.goto 17, 3) := by decide +kernel
theorem dX4_isAhead_49 : decode cX4_isAhead 49 = .ok (.iconst 0, 1) := by decide +kernel
theorem dX4_isAhead_50 : decode cX4_isAhead 50 = .ok (.goto 13, 3) := by decide +kernel
theorem dX4_isAhead_53 : decode cX4_isAhead 53 = .ok (.iload_n 1, 1) := by decide +kernel
theorem dX4_isAhead_54 : decode cX4_isAhead 54 = .ok (.iload_n 2, 1) := by decide +kernel
theorem dX4_isAhead_55 : decode cX4_isAhead 55 = .ok (.if_icmp .ge 7, 3) := by decide +kernel
theorem dX4_isAhead_58 : decode cX4_isAhead 58 = .ok (.iconst 1, 1) := by decide +kernel
theorem dX4_isAhead_59 : decode cX4_isAhead 59 = .ok (.goto 4, 3) := by decide +kernel
theorem dX4_isAhead_62 : decode cX4_isAhead 62 = .ok (.iconst 0, 1) := by decide +kernel
theorem dX4_isAhead_63 : decode cX4_isAhead 63 = .ok (.ireturn, 1) := by decide +kernel
theorem dX4_laysLine_0 : decode cX4_laysLine 0 = .ok (.aload_n 0, 1) := by decide +kernel
theorem dX4_laysLine_1 : decode cX4_laysLine 1 = .ok (.iconst 0, 1) := by decide +kernel
theorem dX4_laysLine_2 : decode cX4_laysLine 2 = .ok (.putfield 125, 3) := by decide +kernel
theorem dX4_laysLine_5 : decode cX4_laysLine 5 = .ok (.iconst 0, 1) := by decide +kernel
theorem dX4_laysLine_6 : decode cX4_laysLine 6 = .ok (.istore_n 1, 1) := by decide +kernel
theorem dX4_laysLine_7 : decode cX4_laysLine 7 = .ok (.iload_n 1, 1) := by decide +kernel
theorem dX4_laysLine_8 : decode cX4_laysLine 8 = .ok (.aload_n 0, 1) := by decide +kernel
theorem dX4_laysLine_9 : decode cX4_laysLine 9 = .ok (.getfield 16, 3) := by decide +kernel
theorem dX4_laysLine_12 : decode cX4_laysLine 12 = .ok (.if_icmp .ge 91, 3) := by decide +kernel
theorem dX4_laysLine_15 : decode cX4_laysLine 15 = .ok (.aload_n 0, 1) := by decide +kernel
theorem dX4_laysLine_16 : decode cX4_laysLine 16 = .ok (.iload_n 1, 1) := by decide +kernel
theorem dX4_laysLine_17 : decode cX4_laysLine 17 = .ok (.invokevirtual 103, 3) := by decide +kernel
theorem dX4_laysLine_20 : decode cX4_laysLine 20 = .ok (.ifCond .eq 77, 3) := by decide +kernel
theorem dX4_laysLine_23 : decode cX4_laysLine 23 = .ok (.aload_n 0, 1) := by decide +kernel
theorem dX4_laysLine_24 : decode cX4_laysLine 24 = .ok (.iload_n 1, 1) := by decide +kernel
theorem dX4_laysLine_25 : decode cX4_laysLine 25 = .ok (.invokevirtual 128, 3) := by decide +kernel
theorem dX4_laysLine_28 : decode cX4_laysLine 28 = .ok (.iconst (-1), 1) := by decide +kernel
theorem dX4_laysLine_29 : decode cX4_laysLine 29 = .ok (.if_icmp .ne 6, 3) := by decide +kernel
theorem dX4_laysLine_32 : decode cX4_laysLine 32 = .ok (.goto 65, 3) := by decide +kernel
theorem dX4_laysLine_35 : decode cX4_laysLine 35 = .ok (.aload_n 0, 1) := by decide +kernel
theorem dX4_laysLine_36 : decode cX4_laysLine 36 = .ok (.getfield 125, 3) := by decide +kernel
theorem dX4_laysLine_39 : decode cX4_laysLine 39 = .ok (.istore_n 2, 1) := by decide +kernel
theorem dX4_laysLine_40 : decode cX4_laysLine 40 = .ok (.iload_n 2, 1) := by decide +kernel
theorem dX4_laysLine_41 : decode cX4_laysLine 41 = .ok (.ifCond .le 39, 3) := by decide +kernel
theorem dX4_laysLine_44 : decode cX4_laysLine 44 = .ok (.aload_n 0, 1) := by decide +kernel
theorem dX4_laysLine_45 : decode cX4_laysLine 45 = .ok (.iload_n 1, 1) := by decide +kernel
theorem dX4_laysLine_46 : decode cX4_laysLine 46 = .ok (.aload_n 0, 1) := by decide +kernel
theorem dX4_laysLine_47 : decode cX4_laysLine 47 = .ok (.getfield 82, 3) := by decide +kernel
theorem dX4_laysLine_50 : decode cX4_laysLine 50 = .ok (.iload_n 2, 1) := by decide +kernel
theorem dX4_laysLine_51 : decode cX4_laysLine 51 = .ok (.iconst 1, 1) := by decide +kernel
theorem dX4_laysLine_52 : decode cX4_laysLine 52 = .ok (.isub, 1) := by decide +kernel
theorem dX4_laysLine_53 : decode cX4_laysLine 53 = .ok (.iaload, 1) := by decide +kernel
theorem dX4_laysLine_54 : decode cX4_laysLine 54 = .ok (.invokevirtual 131, 3) := by decide +kernel
theorem dX4_laysLine_57 : decode cX4_laysLine 57 = .ok (.ifCond .eq 23, 3) := by decide +kernel
theorem dX4_laysLine_60 : decode cX4_laysLine 60 = .ok (.aload_n 0, 1) := by decide +kernel
theorem dX4_laysLine_61 : decode cX4_laysLine 61 = .ok (.getfield 82, 3) := by decide +kernel
theorem dX4_laysLine_64 : decode cX4_laysLine 64 = .ok (.iload_n 2, 1) := by decide +kernel
theorem dX4_laysLine_65 : decode cX4_laysLine 65 = .ok (.aload_n 0, 1) := by decide +kernel
theorem dX4_laysLine_66 : decode cX4_laysLine 66 = .ok (.getfield 82, 3) := by decide +kernel
theorem dX4_laysLine_69 : decode cX4_laysLine 69 = .ok (.iload_n 2, 1) := by decide +kernel
theorem dX4_laysLine_70 : decode cX4_laysLine 70 = .ok (.iconst 1, 1) := by decide +kernel
theorem dX4_laysLine_71 : decode cX4_laysLine 71 = .ok (.isub, 1) := by decide +kernel
theorem dX4_laysLine_72 : decode cX4_laysLine 72 = .ok (.iaload, 1) := by decide +kernel
theorem dX4_laysLine_73 : decode cX4_laysLine 73 = .ok (.iastore, 1) := by decide +kernel
theorem dX4_laysLine_74 : decode cX4_laysLine 74 = .ok (.iinc 2 (-1), 3) := by decide +kernel
theorem dX4_laysLine_77 : decode cX4_laysLine 77 = .ok (.goto (-37), 3) := by decide +kernel
theorem dX4_laysLine_80 : decode cX4_laysLine 80 = .ok (.aload_n 0, 1) := by decide +kernel
theorem dX4_laysLine_81 : decode cX4_laysLine 81 = .ok (.getfield 82, 3) := by decide +kernel
theorem dX4_laysLine_84 : decode cX4_laysLine 84 = .ok (.iload_n 2, 1) := by decide +kernel
theorem dX4_laysLine_85 : decode cX4_laysLine 85 = .ok (.iload_n 1, 1) := by decide +kernel
theorem dX4_laysLine_86 : decode cX4_laysLine 86 = .ok (.iastore, 1) := by decide +kernel
theorem dX4_laysLine_87 : decode cX4_laysLine 87 = .ok (.aload_n 0, 1) := by decide +kernel
theorem dX4_laysLine_88 : decode cX4_laysLine 88 = .ok (.dup, 1) := by decide +kernel
theorem dX4_laysLine_89 : decode cX4_laysLine 89 = .ok (.getfield 125, 3) := by decide +kernel
theorem dX4_laysLine_92 : decode cX4_laysLine 92 = .ok (.iconst 1, 1) := by decide +kernel
theorem dX4_laysLine_93 : decode cX4_laysLine 93 = .ok (.iadd, 1) := by decide +kernel
theorem dX4_laysLine_94 : decode cX4_laysLine 94 = .ok (.putfield 125, 3) := by decide +kernel
theorem dX4_laysLine_97 : decode cX4_laysLine 97 = .ok (.iinc 1 1, 3) := by decide +kernel
theorem dX4_laysLine_100 : decode cX4_laysLine 100 = .ok (.goto (-93), 3) := by decide +kernel
theorem dX4_laysLine_103 : decode cX4_laysLine 103 = .ok (.return_, 1) := by decide +kernel
theorem dX4_runsMore_0 : decode cX4_runsMore 0 = .ok (.iload_n 1, 1) := by decide +kernel
theorem dX4_runsMore_1 : decode cX4_runsMore 1 = .ok (.istore_n 3, 1) := by decide +kernel
theorem dX4_runsMore_2 : decode cX4_runsMore 2 = .ok (.iload_n 3, 1) := by decide +kernel
theorem dX4_runsMore_3 : decode cX4_runsMore 3 = .ok (.iconst (-1), 1) := by decide +kernel
theorem dX4_runsMore_4 : decode cX4_runsMore 4 = .ok (.if_icmp .eq 23, 3) := by decide +kernel
theorem dX4_runsMore_7 : decode cX4_runsMore 7 = .ok (.aload_n 0, 1) := by decide +kernel
theorem dX4_runsMore_8 : decode cX4_runsMore 8 = .ok (.getfield 37, 3) := by decide +kernel
theorem dX4_runsMore_11 : decode cX4_runsMore 11 = .ok (.iload_n 3, 1) := by decide +kernel
theorem dX4_runsMore_12 : decode cX4_runsMore 12 = .ok (.dup2, 1) := by decide +kernel
theorem dX4_runsMore_13 : decode cX4_runsMore 13 = .ok (.iaload, 1) := by decide +kernel
theorem dX4_runsMore_14 : decode cX4_runsMore 14 = .ok (.iload_n 2, 1) := by decide +kernel
theorem dX4_runsMore_15 : decode cX4_runsMore 15 = .ok (.iadd, 1) := by decide +kernel
theorem dX4_runsMore_16 : decode cX4_runsMore 16 = .ok (.iastore, 1) := by decide +kernel
theorem dX4_runsMore_17 : decode cX4_runsMore 17 = .ok (.aload_n 0, 1) := by decide +kernel
theorem dX4_runsMore_18 : decode cX4_runsMore 18 = .ok (.getfield 19, 3) := by decide +kernel
theorem dX4_runsMore_21 : decode cX4_runsMore 21 = .ok (.iload_n 3, 1) := by decide +kernel
theorem dX4_runsMore_22 : decode cX4_runsMore 22 = .ok (.iaload, 1) := by decide +kernel
theorem dX4_runsMore_23 : decode cX4_runsMore 23 = .ok (.istore_n 3, 1) := by decide +kernel
theorem dX4_runsMore_24 : decode cX4_runsMore 24 = .ok (.goto (-22), 3) := by decide +kernel
theorem dX4_runsMore_27 : decode cX4_runsMore 27 = .ok (.return_, 1) := by decide +kernel
theorem dX4_starts_0 : decode cX4_starts 0 = .ok (.aload_n 0, 1) := by decide +kernel
theorem dX4_starts_1 : decode cX4_starts 1 = .ok (.getfield 55, 3) := by decide +kernel
theorem dX4_starts_4 : decode cX4_starts 4 = .ok (.iload_n 1, 1) := by decide +kernel
theorem dX4_starts_5 : decode cX4_starts 5 = .ok (.iconst 1, 1) := by decide +kernel
theorem dX4_starts_6 : decode cX4_starts 6 = .ok (.iastore, 1) := by decide +kernel
theorem dX4_starts_7 : decode cX4_starts 7 = .ok (.aload_n 0, 1) := by decide +kernel
theorem dX4_starts_8 : decode cX4_starts 8 = .ok (.getfield 52, 3) := by decide +kernel
theorem dX4_starts_11 : decode cX4_starts 11 = .ok (.iload_n 1, 1) := by decide +kernel
theorem dX4_starts_12 : decode cX4_starts 12 = .ok (.aload_n 0, 1) := by decide +kernel
theorem dX4_starts_13 : decode cX4_starts 13 = .ok (.getfield 49, 3) := by decide +kernel
theorem dX4_starts_16 : decode cX4_starts 16 = .ok (.iload_n 1, 1) := by decide +kernel
theorem dX4_starts_17 : decode cX4_starts 17 = .ok (.iaload, 1) := by decide +kernel
theorem dX4_starts_18 : decode cX4_starts 18 = .ok (.iastore, 1) := by decide +kernel
theorem dX4_starts_19 : decode cX4_starts 19 = .ok (.aload_n 0, 1) := by decide +kernel
theorem dX4_starts_20 : decode cX4_starts 20 = .ok (.getfield 61, 3) := by decide +kernel
theorem dX4_starts_23 : decode cX4_starts 23 = .ok (.iload_n 1, 1) := by decide +kernel
theorem dX4_starts_24 : decode cX4_starts 24 = .ok (.aload_n 0, 1) := by decide +kernel
theorem dX4_starts_25 : decode cX4_starts 25 = .ok (.getfield 135, 3) := by decide +kernel
theorem dX4_starts_28 : decode cX4_starts 28 = .ok (.iastore, 1) := by decide +kernel
theorem dX4_starts_29 : decode cX4_starts 29 = .ok (.aload_n 0, 1) := by decide +kernel
theorem dX4_starts_30 : decode cX4_starts 30 = .ok (.dup, 1) := by decide +kernel
theorem dX4_starts_31 : decode cX4_starts 31 = .ok (.getfield 135, 3) := by decide +kernel
theorem dX4_starts_34 : decode cX4_starts 34 = .ok (.iconst 1, 1) := by decide +kernel
theorem dX4_starts_35 : decode cX4_starts 35 = .ok (.iadd, 1) := by decide +kernel
theorem dX4_starts_36 : decode cX4_starts 36 = .ok (.putfield 135, 3) := by decide +kernel
theorem dX4_starts_39 : decode cX4_starts 39 = .ok (.aload_n 0, 1) := by decide +kernel
theorem dX4_starts_40 : decode cX4_starts 40 = .ok (.getfield 40, 3) := by decide +kernel
theorem dX4_starts_43 : decode cX4_starts 43 = .ok (.aload_n 0, 1) := by decide +kernel
theorem dX4_starts_44 : decode cX4_starts 44 = .ok (.getfield 43, 3) := by decide +kernel
theorem dX4_starts_47 : decode cX4_starts 47 = .ok (.iload_n 1, 1) := by decide +kernel
theorem dX4_starts_48 : decode cX4_starts 48 = .ok (.iaload, 1) := by decide +kernel
theorem dX4_starts_49 : decode cX4_starts 49 = .ok (.dup2, 1) := by decide +kernel
theorem dX4_starts_50 : decode cX4_starts 50 = .ok (.iaload, 1) := by decide +kernel
theorem dX4_starts_51 : decode cX4_starts 51 = .ok (.aload_n 0, 1) := by decide +kernel
theorem dX4_starts_52 : decode cX4_starts 52 = .ok (.getfield 46, 3) := by decide +kernel
theorem dX4_starts_55 : decode cX4_starts 55 = .ok (.iload_n 1, 1) := by decide +kernel
theorem dX4_starts_56 : decode cX4_starts 56 = .ok (.iaload, 1) := by decide +kernel
theorem dX4_starts_57 : decode cX4_starts 57 = .ok (.isub, 1) := by decide +kernel
theorem dX4_starts_58 : decode cX4_starts 58 = .ok (.iastore, 1) := by decide +kernel
theorem dX4_starts_59 : decode cX4_starts 59 = .ok (.aload_n 0, 1) := by decide +kernel
theorem dX4_starts_60 : decode cX4_starts 60 = .ok (.aload_n 0, 1) := by decide +kernel
theorem dX4_starts_61 : decode cX4_starts 61 = .ok (.getfield 43, 3) := by decide +kernel
theorem dX4_starts_64 : decode cX4_starts 64 = .ok (.iload_n 1, 1) := by decide +kernel
theorem dX4_starts_65 : decode cX4_starts 65 = .ok (.iaload, 1) := by decide +kernel
theorem dX4_starts_66 : decode cX4_starts 66 = .ok (.aload_n 0, 1) := by decide +kernel
theorem dX4_starts_67 : decode cX4_starts 67 = .ok (.getfield 46, 3) := by decide +kernel
theorem dX4_starts_70 : decode cX4_starts 70 = .ok (.iload_n 1, 1) := by decide +kernel
theorem dX4_starts_71 : decode cX4_starts 71 = .ok (.iaload, 1) := by decide +kernel
theorem dX4_starts_72 : decode cX4_starts 72 = .ok (.invokevirtual 138, 3) := by decide +kernel
theorem dX4_starts_75 : decode cX4_starts 75 = .ok (.return_, 1) := by decide +kernel
theorem dX4_halts_0 : decode cX4_halts 0 = .ok (.aload_n 0, 1) := by decide +kernel
theorem dX4_halts_1 : decode cX4_halts 1 = .ok (.getfield 55, 3) := by decide +kernel
theorem dX4_halts_4 : decode cX4_halts 4 = .ok (.iload_n 1, 1) := by decide +kernel
theorem dX4_halts_5 : decode cX4_halts 5 = .ok (.iconst 0, 1) := by decide +kernel
theorem dX4_halts_6 : decode cX4_halts 6 = .ok (.iastore, 1) := by decide +kernel
theorem dX4_halts_7 : decode cX4_halts 7 = .ok (.aload_n 0, 1) := by decide +kernel
theorem dX4_halts_8 : decode cX4_halts 8 = .ok (.getfield 40, 3) := by decide +kernel
theorem dX4_halts_11 : decode cX4_halts 11 = .ok (.aload_n 0, 1) := by decide +kernel
theorem dX4_halts_12 : decode cX4_halts 12 = .ok (.getfield 43, 3) := by decide +kernel
theorem dX4_halts_15 : decode cX4_halts 15 = .ok (.iload_n 1, 1) := by decide +kernel
theorem dX4_halts_16 : decode cX4_halts 16 = .ok (.iaload, 1) := by decide +kernel
theorem dX4_halts_17 : decode cX4_halts 17 = .ok (.dup2, 1) := by decide +kernel
theorem dX4_halts_18 : decode cX4_halts 18 = .ok (.iaload, 1) := by decide +kernel
theorem dX4_halts_19 : decode cX4_halts 19 = .ok (.aload_n 0, 1) := by decide +kernel
theorem dX4_halts_20 : decode cX4_halts 20 = .ok (.getfield 46, 3) := by decide +kernel
theorem dX4_halts_23 : decode cX4_halts 23 = .ok (.iload_n 1, 1) := by decide +kernel
theorem dX4_halts_24 : decode cX4_halts 24 = .ok (.iaload, 1) := by decide +kernel
theorem dX4_halts_25 : decode cX4_halts 25 = .ok (.iadd, 1) := by decide +kernel
theorem dX4_halts_26 : decode cX4_halts 26 = .ok (.iastore, 1) := by decide +kernel
theorem dX4_halts_27 : decode cX4_halts 27 = .ok (.aload_n 0, 1) := by decide +kernel
theorem dX4_halts_28 : decode cX4_halts 28 = .ok (.aload_n 0, 1) := by decide +kernel
theorem dX4_halts_29 : decode cX4_halts 29 = .ok (.getfield 43, 3) := by decide +kernel
theorem dX4_halts_32 : decode cX4_halts 32 = .ok (.iload_n 1, 1) := by decide +kernel
theorem dX4_halts_33 : decode cX4_halts 33 = .ok (.iaload, 1) := by decide +kernel
theorem dX4_halts_34 : decode cX4_halts 34 = .ok (.aload_n 0, 1) := by decide +kernel
theorem dX4_halts_35 : decode cX4_halts 35 = .ok (.getfield 46, 3) := by decide +kernel
theorem dX4_halts_38 : decode cX4_halts 38 = .ok (.iload_n 1, 1) := by decide +kernel
theorem dX4_halts_39 : decode cX4_halts 39 = .ok (.iaload, 1) := by decide +kernel
theorem dX4_halts_40 : decode cX4_halts 40 = .ok (.ineg, 1) := by decide +kernel
theorem dX4_halts_41 : decode cX4_halts 41 = .ok (.invokevirtual 138, 3) := by decide +kernel
theorem dX4_halts_44 : decode cX4_halts 44 = .ok (.return_, 1) := by decide +kernel
theorem dX4_goesBack_0 : decode cX4_goesBack 0 = .ok (.aload_n 0, 1) := by decide +kernel
theorem dX4_goesBack_1 : decode cX4_goesBack 1 = .ok (.getfield 55, 3) := by decide +kernel
theorem dX4_goesBack_4 : decode cX4_goesBack 4 = .ok (.iload_n 1, 1) := by decide +kernel
theorem dX4_goesBack_5 : decode cX4_goesBack 5 = .ok (.iconst 1, 1) := by decide +kernel
theorem dX4_goesBack_6 : decode cX4_goesBack 6 = .ok (.iastore, 1) := by decide +kernel
theorem dX4_goesBack_7 : decode cX4_goesBack 7 = .ok (.aload_n 0, 1) := by decide +kernel
theorem dX4_goesBack_8 : decode cX4_goesBack 8 = .ok (.getfield 40, 3) := by decide +kernel
theorem dX4_goesBack_11 : decode cX4_goesBack 11 = .ok (.aload_n 0, 1) := by decide +kernel
theorem dX4_goesBack_12 : decode cX4_goesBack 12 = .ok (.getfield 43, 3) := by decide +kernel
theorem dX4_goesBack_15 : decode cX4_goesBack 15 = .ok (.iload_n 1, 1) := by decide +kernel
theorem dX4_goesBack_16 : decode cX4_goesBack 16 = .ok (.iaload, 1) := by decide +kernel
theorem dX4_goesBack_17 : decode cX4_goesBack 17 = .ok (.dup2, 1) := by decide +kernel
theorem dX4_goesBack_18 : decode cX4_goesBack 18 = .ok (.iaload, 1) := by decide +kernel
theorem dX4_goesBack_19 : decode cX4_goesBack 19 = .ok (.aload_n 0, 1) := by decide +kernel
theorem dX4_goesBack_20 : decode cX4_goesBack 20 = .ok (.getfield 46, 3) := by decide +kernel
theorem dX4_goesBack_23 : decode cX4_goesBack 23 = .ok (.iload_n 1, 1) := by decide +kernel
theorem dX4_goesBack_24 : decode cX4_goesBack 24 = .ok (.iaload, 1) := by decide +kernel
theorem dX4_goesBack_25 : decode cX4_goesBack 25 = .ok (.isub, 1) := by decide +kernel
theorem dX4_goesBack_26 : decode cX4_goesBack 26 = .ok (.iastore, 1) := by decide +kernel
theorem dX4_goesBack_27 : decode cX4_goesBack 27 = .ok (.aload_n 0, 1) := by decide +kernel
theorem dX4_goesBack_28 : decode cX4_goesBack 28 = .ok (.aload_n 0, 1) := by decide +kernel
theorem dX4_goesBack_29 : decode cX4_goesBack 29 = .ok (.getfield 43, 3) := by decide +kernel
theorem dX4_goesBack_32 : decode cX4_goesBack 32 = .ok (.iload_n 1, 1) := by decide +kernel
theorem dX4_goesBack_33 : decode cX4_goesBack 33 = .ok (.iaload, 1) := by decide +kernel
theorem dX4_goesBack_34 : decode cX4_goesBack 34 = .ok (.aload_n 0, 1) := by decide +kernel
theorem dX4_goesBack_35 : decode cX4_goesBack 35 = .ok (.getfield 46, 3) := by decide +kernel
theorem dX4_goesBack_38 : decode cX4_goesBack 38 = .ok (.iload_n 1, 1) := by decide +kernel
theorem dX4_goesBack_39 : decode cX4_goesBack 39 = .ok (.iaload, 1) := by decide +kernel
theorem dX4_goesBack_40 : decode cX4_goesBack 40 = .ok (.invokevirtual 138, 3) := by decide +kernel
theorem dX4_goesBack_43 : decode cX4_goesBack 43 = .ok (.return_, 1) := by decide +kernel
theorem dX4_isWithinLimits_0 : decode cX4_isWithinLimits 0 = .ok (.iconst 1, 1) := by decide +kernel
theorem dX4_isWithinLimits_1 : decode cX4_isWithinLimits 1 = .ok (.istore_n 2, 1) := by decide +kernel
theorem dX4_isWithinLimits_2 : decode cX4_isWithinLimits 2 = .ok (.aload_n 0, 1) := by decide +kernel
theorem dX4_isWithinLimits_3 : decode cX4_isWithinLimits 3 = .ok (.getfield 43, 3) := by decide +kernel
theorem dX4_isWithinLimits_6 : decode cX4_isWithinLimits 6 = .ok (.iload_n 1, 1) := by decide +kernel
theorem dX4_isWithinLimits_7 : decode cX4_isWithinLimits 7 = .ok (.iaload, 1) := by decide +kernel
theorem dX4_isWithinLimits_8 : decode cX4_isWithinLimits 8 = .ok (.istore_n 3, 1) := by decide +kernel
theorem dX4_isWithinLimits_9 : decode cX4_isWithinLimits 9 = .ok (.iload_n 3, 1) := by decide +kernel
theorem dX4_isWithinLimits_10 : decode cX4_isWithinLimits 10 = .ok (.ifCond .le 45, 3) := by decide +kernel
theorem dX4_isWithinLimits_13 : decode cX4_isWithinLimits 13 = .ok (.iload_n 2, 1) := by decide +kernel
theorem dX4_isWithinLimits_14 : decode cX4_isWithinLimits 14 = .ok (.ifCond .eq 29, 3) := by decide +kernel
theorem dX4_isWithinLimits_17 : decode cX4_isWithinLimits 17 = .ok (.aload_n 0, 1) := by decide +kernel
theorem dX4_isWithinLimits_18 : decode cX4_isWithinLimits 18 = .ok (.getfield 37, 3) := by decide +kernel
theorem dX4_isWithinLimits_21 : decode cX4_isWithinLimits 21 = .ok (.iload_n 3, 1) := by decide +kernel
theorem dX4_isWithinLimits_22 : decode cX4_isWithinLimits 22 = .ok (.iaload, 1) := by decide +kernel
theorem dX4_isWithinLimits_23 : decode cX4_isWithinLimits 23 = .ok (.aload_n 0, 1) := by decide +kernel
theorem dX4_isWithinLimits_24 : decode cX4_isWithinLimits 24 = .ok (.getfield 46, 3) := by decide +kernel
theorem dX4_isWithinLimits_27 : decode cX4_isWithinLimits 27 = .ok (.iload_n 1, 1) := by decide +kernel
theorem dX4_isWithinLimits_28 : decode cX4_isWithinLimits 28 = .ok (.iaload, 1) := by decide +kernel
theorem dX4_isWithinLimits_29 : decode cX4_isWithinLimits 29 = .ok (.iadd, 1) := by decide +kernel
theorem dX4_isWithinLimits_30 : decode cX4_isWithinLimits 30 = .ok (.aload_n 0, 1) := by decide +kernel
theorem dX4_isWithinLimits_31 : decode cX4_isWithinLimits 31 = .ok (.getfield 26, 3) := by decide +kernel
theorem dX4_isWithinLimits_34 : decode cX4_isWithinLimits 34 = .ok (.iload_n 3, 1) := by decide +kernel
theorem dX4_isWithinLimits_35 : decode cX4_isWithinLimits 35 = .ok (.iaload, 1) := by decide +kernel
theorem dX4_isWithinLimits_36 : decode cX4_isWithinLimits 36 = .ok (.if_icmp .gt 7, 3) := by decide +kernel
theorem dX4_isWithinLimits_39 : decode cX4_isWithinLimits 39 = .ok (.iconst 1, 1) := by decide +kernel
theorem dX4_isWithinLimits_40 : decode cX4_isWithinLimits 40 = .ok (.goto 4, 3) := by decide +kernel
theorem dX4_isWithinLimits_43 : decode cX4_isWithinLimits 43 = .ok (.iconst 0, 1) := by decide +kernel
theorem dX4_isWithinLimits_44 : decode cX4_isWithinLimits 44 = .ok (.istore_n 2, 1) := by decide +kernel
theorem dX4_isWithinLimits_45 : decode cX4_isWithinLimits 45 = .ok (.aload_n 0, 1) := by decide +kernel
theorem dX4_isWithinLimits_46 : decode cX4_isWithinLimits 46 = .ok (.getfield 19, 3) := by decide +kernel
theorem dX4_isWithinLimits_49 : decode cX4_isWithinLimits 49 = .ok (.iload_n 3, 1) := by decide +kernel
theorem dX4_isWithinLimits_50 : decode cX4_isWithinLimits 50 = .ok (.iaload, 1) := by decide +kernel
theorem dX4_isWithinLimits_51 : decode cX4_isWithinLimits 51 = .ok (.istore_n 3, 1) := by decide +kernel
theorem dX4_isWithinLimits_52 : decode cX4_isWithinLimits 52 = .ok (.goto (-43), 3) := by decide +kernel
theorem dX4_isWithinLimits_55 : decode cX4_isWithinLimits 55 = .ok (.iload_n 2, 1) := by decide +kernel
theorem dX4_isWithinLimits_56 : decode cX4_isWithinLimits 56 = .ok (.ireturn, 1) := by decide +kernel
theorem dX4_canStart_0 : decode cX4_canStart 0 = .ok (.aload_n 0, 1) := by decide +kernel
theorem dX4_canStart_1 : decode cX4_canStart 1 = .ok (.iload_n 1, 1) := by decide +kernel
theorem dX4_canStart_2 : decode cX4_canStart 2 = .ok (.invokevirtual 142, 3) := by decide +kernel
theorem dX4_canStart_5 : decode cX4_canStart 5 = .ok (.ifCond .eq 26, 3) := by decide +kernel
theorem dX4_canStart_8 : decode cX4_canStart 8 = .ok (.aload_n 0, 1) := by decide +kernel
theorem dX4_canStart_9 : decode cX4_canStart 9 = .ok (.getfield 46, 3) := by decide +kernel
theorem dX4_canStart_12 : decode cX4_canStart 12 = .ok (.iload_n 1, 1) := by decide +kernel
theorem dX4_canStart_13 : decode cX4_canStart 13 = .ok (.iaload, 1) := by decide +kernel
theorem dX4_canStart_14 : decode cX4_canStart 14 = .ok (.aload_n 0, 1) := by decide +kernel
theorem dX4_canStart_15 : decode cX4_canStart 15 = .ok (.aload_n 0, 1) := by decide +kernel
theorem dX4_canStart_16 : decode cX4_canStart 16 = .ok (.getfield 43, 3) := by decide +kernel
theorem dX4_canStart_19 : decode cX4_canStart 19 = .ok (.iload_n 1, 1) := by decide +kernel
theorem dX4_canStart_20 : decode cX4_canStart 20 = .ok (.iaload, 1) := by decide +kernel
theorem dX4_canStart_21 : decode cX4_canStart 21 = .ok (.invokevirtual 145, 3) := by decide +kernel
theorem dX4_canStart_24 : decode cX4_canStart 24 = .ok (.if_icmp .gt 7, 3) := by decide +kernel
theorem dX4_canStart_27 : decode cX4_canStart 27 = .ok (.iconst 1, 1) := by decide +kernel
theorem dX4_canStart_28 : decode cX4_canStart 28 = .ok (.goto 4, 3) := by decide +kernel
theorem dX4_canStart_31 : decode cX4_canStart 31 = .ok (.iconst 0, 1) := by decide +kernel
theorem dX4_canStart_32 : decode cX4_canStart 32 = .ok (.ireturn, 1) := by decide +kernel
theorem dX4_lastOver_0 : decode cX4_lastOver 0 = .ok (.iconst (-1), 1) := by decide +kernel
theorem dX4_lastOver_1 : decode cX4_lastOver 1 = .ok (.istore_n 2, 1) := by decide +kernel
theorem dX4_lastOver_2 : decode cX4_lastOver 2 = .ok (.iconst 0, 1) := by decide +kernel
theorem dX4_lastOver_3 : decode cX4_lastOver 3 = .ok (.istore_n 3, 1) := by decide +kernel
theorem dX4_lastOver_4 : decode cX4_lastOver 4 = .ok (.iload_n 3, 1) := by decide +kernel
theorem dX4_lastOver_5 : decode cX4_lastOver 5 = .ok (.aload_n 0, 1) := by decide +kernel
theorem dX4_lastOver_6 : decode cX4_lastOver 6 = .ok (.getfield 122, 3) := by decide +kernel
theorem dX4_lastOver_9 : decode cX4_lastOver 9 = .ok (.if_icmp .ge 91, 3) := by decide +kernel
theorem dX4_lastOver_12 : decode cX4_lastOver 12 = .ok (.aload_n 0, 1) := by decide +kernel
theorem dX4_lastOver_13 : decode cX4_lastOver 13 = .ok (.getfield 55, 3) := by decide +kernel
theorem dX4_lastOver_16 : decode cX4_lastOver 16 = .ok (.iload_n 3, 1) := by decide +kernel
theorem dX4_lastOver_17 : decode cX4_lastOver 17 = .ok (.iaload, 1) := by decide +kernel
theorem dX4_lastOver_18 : decode cX4_lastOver 18 = .ok (.iconst 1, 1) := by decide +kernel
theorem dX4_lastOver_19 : decode cX4_lastOver 19 = .ok (.if_icmp .ne 41, 3) := by decide +kernel
theorem dX4_lastOver_22 : decode cX4_lastOver 22 = .ok (.aload_n 0, 1) := by decide +kernel
theorem dX4_lastOver_23 : decode cX4_lastOver 23 = .ok (.getfield 43, 3) := by decide +kernel
theorem dX4_lastOver_26 : decode cX4_lastOver 26 = .ok (.iload_n 3, 1) := by decide +kernel
theorem dX4_lastOver_27 : decode cX4_lastOver 27 = .ok (.iaload, 1) := by decide +kernel
theorem dX4_lastOver_28 : decode cX4_lastOver 28 = .ok (.iload_n 1, 1) := by decide +kernel
theorem dX4_lastOver_29 : decode cX4_lastOver 29 = .ok (.if_icmp .eq 31, 3) := by decide +kernel
theorem dX4_lastOver_32 : decode cX4_lastOver 32 = .ok (.aload_n 0, 1) := by decide +kernel
theorem dX4_lastOver_33 : decode cX4_lastOver 33 = .ok (.getfield 37, 3) := by decide +kernel
theorem dX4_lastOver_36 : decode cX4_lastOver 36 = .ok (.aload_n 0, 1) := by decide +kernel
theorem dX4_lastOver_37 : decode cX4_lastOver 37 = .ok (.getfield 43, 3) := by decide +kernel
theorem dX4_lastOver_40 : decode cX4_lastOver 40 = .ok (.iload_n 3, 1) := by decide +kernel
theorem dX4_lastOver_41 : decode cX4_lastOver 41 = .ok (.iaload, 1) := by decide +kernel
theorem dX4_lastOver_42 : decode cX4_lastOver 42 = .ok (.iaload, 1) := by decide +kernel
theorem dX4_lastOver_43 : decode cX4_lastOver 43 = .ok (.aload_n 0, 1) := by decide +kernel
theorem dX4_lastOver_44 : decode cX4_lastOver 44 = .ok (.aload_n 0, 1) := by decide +kernel
theorem dX4_lastOver_45 : decode cX4_lastOver 45 = .ok (.getfield 43, 3) := by decide +kernel
theorem dX4_lastOver_48 : decode cX4_lastOver 48 = .ok (.iload_n 3, 1) := by decide +kernel
theorem dX4_lastOver_49 : decode cX4_lastOver 49 = .ok (.iaload, 1) := by decide +kernel
theorem dX4_lastOver_50 : decode cX4_lastOver 50 = .ok (.invokevirtual 148, 3) := by decide +kernel
theorem dX4_lastOver_53 : decode cX4_lastOver 53 = .ok (.if_icmp .le 7, 3) := by decide +kernel
theorem dX4_lastOver_56 : decode cX4_lastOver 56 = .ok (.iconst 1, 1) := by decide +kernel
theorem dX4_lastOver_57 : decode cX4_lastOver 57 = .ok (.goto 4, 3) := by decide +kernel
theorem dX4_lastOver_60 : decode cX4_lastOver 60 = .ok (.iconst 0, 1) := by decide +kernel
theorem dX4_lastOver_61 : decode cX4_lastOver 61 = .ok (.istore 4, 2) := by decide +kernel
theorem dX4_lastOver_63 : decode cX4_lastOver 63 = .ok (.iload 4, 2) := by decide +kernel
theorem dX4_lastOver_65 : decode cX4_lastOver 65 = .ok (.ifCond .eq 27, 3) := by decide +kernel
theorem dX4_lastOver_68 : decode cX4_lastOver 68 = .ok (.iload_n 2, 1) := by decide +kernel
theorem dX4_lastOver_69 : decode cX4_lastOver 69 = .ok (.iconst (-1), 1) := by decide +kernel
theorem dX4_lastOver_70 : decode cX4_lastOver 70 = .ok (.if_icmp .eq 18, 3) := by decide +kernel
theorem dX4_lastOver_73 : decode cX4_lastOver 73 = .ok (.aload_n 0, 1) := by decide +kernel
theorem dX4_lastOver_74 : decode cX4_lastOver 74 = .ok (.getfield 61, 3) := by decide +kernel
theorem dX4_lastOver_77 : decode cX4_lastOver 77 = .ok (.iload_n 3, 1) := by decide +kernel
theorem dX4_lastOver_78 : decode cX4_lastOver 78 = .ok (.iaload, 1) := by decide +kernel
theorem dX4_lastOver_79 : decode cX4_lastOver 79 = .ok (.aload_n 0, 1) := by decide +kernel
theorem dX4_lastOver_80 : decode cX4_lastOver 80 = .ok (.getfield 61, 3) := by decide +kernel
theorem dX4_lastOver_83 : decode cX4_lastOver 83 = .ok (.iload_n 2, 1) := by decide +kernel
theorem dX4_lastOver_84 : decode cX4_lastOver 84 = .ok (.iaload, 1) := by decide +kernel
theorem dX4_lastOver_85 : decode cX4_lastOver 85 = .ok (.if_icmp .le 7, 3) := by decide +kernel
theorem dX4_lastOver_88 : decode cX4_lastOver 88 = .ok (.iload_n 3, 1) := by decide +kernel
theorem dX4_lastOver_89 : decode cX4_lastOver 89 = .ok (.goto 4, 3) := by decide +kernel
theorem dX4_lastOver_92 : decode cX4_lastOver 92 = .ok (.iload_n 2, 1) := by decide +kernel
theorem dX4_lastOver_93 : decode cX4_lastOver 93 = .ok (.istore_n 2, 1) := by decide +kernel
theorem dX4_lastOver_94 : decode cX4_lastOver 94 = .ok (.iinc 3 1, 3) := by decide +kernel
theorem dX4_lastOver_97 : decode cX4_lastOver 97 = .ok (.goto (-93), 3) := by decide +kernel
theorem dX4_lastOver_100 : decode cX4_lastOver 100 = .ok (.iload_n 2, 1) := by decide +kernel
theorem dX4_lastOver_101 : decode cX4_lastOver 101 = .ok (.ireturn, 1) := by decide +kernel
theorem dX4_makesRoom_0 : decode cX4_makesRoom 0 = .ok (.aload_n 0, 1) := by decide +kernel
theorem dX4_makesRoom_1 : decode cX4_makesRoom 1 = .ok (.getfield 43, 3) := by decide +kernel
theorem dX4_makesRoom_4 : decode cX4_makesRoom 4 = .ok (.iload_n 1, 1) := by decide +kernel
theorem dX4_makesRoom_5 : decode cX4_makesRoom 5 = .ok (.iaload, 1) := by decide +kernel
theorem dX4_makesRoom_6 : decode cX4_makesRoom 6 = .ok (.istore_n 2, 1) := by decide +kernel
theorem dX4_makesRoom_7 : decode cX4_makesRoom 7 = .ok (.aload_n 0, 1) := by decide +kernel
theorem dX4_makesRoom_8 : decode cX4_makesRoom 8 = .ok (.iconst 0, 1) := by decide +kernel
theorem dX4_makesRoom_9 : decode cX4_makesRoom 9 = .ok (.putfield 151, 3) := by decide +kernel
theorem dX4_makesRoom_12 : decode cX4_makesRoom 12 = .ok (.aload_n 0, 1) := by decide +kernel
theorem dX4_makesRoom_13 : decode cX4_makesRoom 13 = .ok (.iload_n 1, 1) := by decide +kernel
theorem dX4_makesRoom_14 : decode cX4_makesRoom 14 = .ok (.invokevirtual 142, 3) := by decide +kernel
theorem dX4_makesRoom_17 : decode cX4_makesRoom 17 = .ok (.ifCond .eq 38, 3) := by decide +kernel
theorem dX4_makesRoom_20 : decode cX4_makesRoom 20 = .ok (.aload_n 0, 1) := by decide +kernel
theorem dX4_makesRoom_21 : decode cX4_makesRoom 21 = .ok (.getfield 46, 3) := by decide +kernel
theorem dX4_makesRoom_24 : decode cX4_makesRoom 24 = .ok (.iload_n 1, 1) := by decide +kernel
theorem dX4_makesRoom_25 : decode cX4_makesRoom 25 = .ok (.iaload, 1) := by decide +kernel
theorem dX4_makesRoom_26 : decode cX4_makesRoom 26 = .ok (.aload_n 0, 1) := by decide +kernel
theorem dX4_makesRoom_27 : decode cX4_makesRoom 27 = .ok (.iload_n 2, 1) := by decide +kernel
theorem dX4_makesRoom_28 : decode cX4_makesRoom 28 = .ok (.invokevirtual 145, 3) := by decide +kernel
theorem dX4_makesRoom_31 : decode cX4_makesRoom 31 = .ok (.if_icmp .le 24, 3) := by decide +kernel
theorem dX4_makesRoom_34 : decode cX4_makesRoom 34 = .ok (.aload_n 0, 1) := by decide +kernel
theorem dX4_makesRoom_35 : decode cX4_makesRoom 35 = .ok (.getfield 37, 3) := by decide +kernel
theorem dX4_makesRoom_38 : decode cX4_makesRoom 38 = .ok (.iload_n 2, 1) := by decide +kernel
theorem dX4_makesRoom_39 : decode cX4_makesRoom 39 = .ok (.iaload, 1) := by decide +kernel
theorem dX4_makesRoom_40 : decode cX4_makesRoom 40 = .ok (.aload_n 0, 1) := by decide +kernel
theorem dX4_makesRoom_41 : decode cX4_makesRoom 41 = .ok (.getfield 46, 3) := by decide +kernel
theorem dX4_makesRoom_44 : decode cX4_makesRoom 44 = .ok (.iload_n 1, 1) := by decide +kernel
theorem dX4_makesRoom_45 : decode cX4_makesRoom 45 = .ok (.iaload, 1) := by decide +kernel
theorem dX4_makesRoom_46 : decode cX4_makesRoom 46 = .ok (.iadd, 1) := by decide +kernel
theorem dX4_makesRoom_47 : decode cX4_makesRoom 47 = .ok (.aload_n 0, 1) := by decide +kernel
theorem dX4_makesRoom_48 : decode cX4_makesRoom 48 = .ok (.iload_n 2, 1) := by decide +kernel
theorem dX4_makesRoom_49 : decode cX4_makesRoom 49 = .ok (.invokevirtual 148, 3) := by decide +kernel
theorem dX4_makesRoom_52 : decode cX4_makesRoom 52 = .ok (.if_icmp .le 5, 3) := by decide +kernel
theorem dX4_makesRoom_55 : decode cX4_makesRoom 55 = .ok (.iconst 0, 1) := by decide +kernel
theorem dX4_makesRoom_56 : decode cX4_makesRoom 56 = .ok (.ireturn, 1) := by decide +kernel
theorem dX4_makesRoom_57 : decode cX4_makesRoom 57 = .ok (.aload_n 0, 1) := by decide +kernel
theorem dX4_makesRoom_58 : decode cX4_makesRoom 58 = .ok (.getfield 46, 3) := by decide +kernel
theorem dX4_makesRoom_61 : decode cX4_makesRoom 61 = .ok (.iload_n 1, 1) := by decide +kernel
theorem dX4_makesRoom_62 : decode cX4_makesRoom 62 = .ok (.iaload, 1) := by decide +kernel
theorem dX4_makesRoom_63 : decode cX4_makesRoom 63 = .ok (.aload_n 0, 1) := by decide +kernel
theorem dX4_makesRoom_64 : decode cX4_makesRoom 64 = .ok (.iload_n 2, 1) := by decide +kernel
theorem dX4_makesRoom_65 : decode cX4_makesRoom 65 = .ok (.invokevirtual 145, 3) := by decide +kernel
theorem dX4_makesRoom_68 : decode cX4_makesRoom 68 = .ok (.if_icmp .le 48, 3) := by decide +kernel
theorem dX4_makesRoom_71 : decode cX4_makesRoom 71 = .ok (.aload_n 0, 1) := by decide +kernel
theorem dX4_makesRoom_72 : decode cX4_makesRoom 72 = .ok (.iload_n 2, 1) := by decide +kernel
theorem dX4_makesRoom_73 : decode cX4_makesRoom 73 = .ok (.invokevirtual 154, 3) := by decide +kernel
theorem dX4_makesRoom_76 : decode cX4_makesRoom 76 = .ok (.istore_n 3, 1) := by decide +kernel
theorem dX4_makesRoom_77 : decode cX4_makesRoom 77 = .ok (.iload_n 3, 1) := by decide +kernel
theorem dX4_makesRoom_78 : decode cX4_makesRoom 78 = .ok (.iconst (-1), 1) := by decide +kernel
theorem dX4_makesRoom_79 : decode cX4_makesRoom 79 = .ok (.if_icmp .ne 9, 3) := by decide +kernel
theorem dX4_makesRoom_82 : decode cX4_makesRoom 82 = .ok (.aload_n 0, 1) := by decide +kernel
theorem dX4_makesRoom_83 : decode cX4_makesRoom 83 = .ok (.invokevirtual 157, 3) := by decide +kernel
theorem dX4_makesRoom_86 : decode cX4_makesRoom 86 = .ok (.iconst 0, 1) := by decide +kernel
theorem dX4_makesRoom_87 : decode cX4_makesRoom 87 = .ok (.ireturn, 1) := by decide +kernel
theorem dX4_makesRoom_88 : decode cX4_makesRoom 88 = .ok (.aload_n 0, 1) := by decide +kernel
theorem dX4_makesRoom_89 : decode cX4_makesRoom 89 = .ok (.iload_n 3, 1) := by decide +kernel
theorem dX4_makesRoom_90 : decode cX4_makesRoom 90 = .ok (.invokevirtual 160, 3) := by decide +kernel
theorem dX4_makesRoom_93 : decode cX4_makesRoom 93 = .ok (.aload_n 0, 1) := by decide +kernel
theorem dX4_makesRoom_94 : decode cX4_makesRoom 94 = .ok (.getfield 85, 3) := by decide +kernel
theorem dX4_makesRoom_97 : decode cX4_makesRoom 97 = .ok (.aload_n 0, 1) := by decide +kernel
theorem dX4_makesRoom_98 : decode cX4_makesRoom 98 = .ok (.getfield 151, 3) := by decide +kernel
theorem dX4_makesRoom_101 : decode cX4_makesRoom 101 = .ok (.iload_n 3, 1) := by decide +kernel
theorem dX4_makesRoom_102 : decode cX4_makesRoom 102 = .ok (.iastore, 1) := by decide +kernel
theorem dX4_makesRoom_103 : decode cX4_makesRoom 103 = .ok (.aload_n 0, 1) := by decide +kernel
theorem dX4_makesRoom_104 : decode cX4_makesRoom 104 = .ok (.dup, 1) := by decide +kernel
theorem dX4_makesRoom_105 : decode cX4_makesRoom 105 = .ok (.getfield 151, 3) := by decide +kernel
theorem dX4_makesRoom_108 : decode cX4_makesRoom 108 = .ok (.iconst 1, 1) := by decide +kernel
theorem dX4_makesRoom_109 : decode cX4_makesRoom 109 = .ok (.iadd, 1) := by decide +kernel
theorem dX4_makesRoom_110 : decode cX4_makesRoom 110 = .ok (.putfield 151, 3) := by decide +kernel
theorem dX4_makesRoom_113 : decode cX4_makesRoom 113 = .ok (.goto (-56), 3) := by decide +kernel
theorem dX4_makesRoom_116 : decode cX4_makesRoom 116 = .ok (.iconst 1, 1) := by decide +kernel
theorem dX4_makesRoom_117 : decode cX4_makesRoom 117 = .ok (.ireturn, 1) := by decide +kernel
theorem dX4_restores_0 : decode cX4_restores 0 = .ok (.iconst 0, 1) := by decide +kernel
theorem dX4_restores_1 : decode cX4_restores 1 = .ok (.istore_n 1, 1) := by decide +kernel
theorem dX4_restores_2 : decode cX4_restores 2 = .ok (.iload_n 1, 1) := by decide +kernel
theorem dX4_restores_3 : decode cX4_restores 3 = .ok (.aload_n 0, 1) := by decide +kernel
theorem dX4_restores_4 : decode cX4_restores 4 = .ok (.getfield 151, 3) := by decide +kernel
theorem dX4_restores_7 : decode cX4_restores 7 = .ok (.if_icmp .ge 19, 3) := by decide +kernel
theorem dX4_restores_10 : decode cX4_restores 10 = .ok (.aload_n 0, 1) := by decide +kernel
theorem dX4_restores_11 : decode cX4_restores 11 = .ok (.aload_n 0, 1) := by decide +kernel
theorem dX4_restores_12 : decode cX4_restores 12 = .ok (.getfield 85, 3) := by decide +kernel
theorem dX4_restores_15 : decode cX4_restores 15 = .ok (.iload_n 1, 1) := by decide +kernel
theorem dX4_restores_16 : decode cX4_restores 16 = .ok (.iaload, 1) := by decide +kernel
theorem dX4_restores_17 : decode cX4_restores 17 = .ok (.invokevirtual 163, 3) := by decide +kernel
theorem dX4_restores_20 : decode cX4_restores 20 = .ok (.iinc 1 1, 3) := by decide +kernel
theorem dX4_restores_23 : decode cX4_restores 23 = .ok (.goto (-21), 3) := by decide +kernel
theorem dX4_restores_26 : decode cX4_restores 26 = .ok (.aload_n 0, 1) := by decide +kernel
theorem dX4_restores_27 : decode cX4_restores 27 = .ok (.iconst 0, 1) := by decide +kernel
theorem dX4_restores_28 : decode cX4_restores 28 = .ok (.putfield 151, 3) := by decide +kernel
theorem dX4_restores_31 : decode cX4_restores 31 = .ok (.return_, 1) := by decide +kernel
theorem dX4_servesOne_0 : decode cX4_servesOne 0 = .ok (.aload_n 0, 1) := by decide +kernel
theorem dX4_servesOne_1 : decode cX4_servesOne 1 = .ok (.invokevirtual 166, 3) := by decide +kernel
theorem dX4_servesOne_4 : decode cX4_servesOne 4 = .ok (.iconst 0, 1) := by decide +kernel
theorem dX4_servesOne_5 : decode cX4_servesOne 5 = .ok (.istore_n 1, 1) := by decide +kernel
theorem dX4_servesOne_6 : decode cX4_servesOne 6 = .ok (.iload_n 1, 1) := by decide +kernel
theorem dX4_servesOne_7 : decode cX4_servesOne 7 = .ok (.aload_n 0, 1) := by decide +kernel
theorem dX4_servesOne_8 : decode cX4_servesOne 8 = .ok (.getfield 125, 3) := by decide +kernel
theorem dX4_servesOne_11 : decode cX4_servesOne 11 = .ok (.if_icmp .ge 79, 3) := by decide +kernel
theorem dX4_servesOne_14 : decode cX4_servesOne 14 = .ok (.aload_n 0, 1) := by decide +kernel
theorem dX4_servesOne_15 : decode cX4_servesOne 15 = .ok (.aload_n 0, 1) := by decide +kernel
theorem dX4_servesOne_16 : decode cX4_servesOne 16 = .ok (.getfield 82, 3) := by decide +kernel
theorem dX4_servesOne_19 : decode cX4_servesOne 19 = .ok (.iload_n 1, 1) := by decide +kernel
theorem dX4_servesOne_20 : decode cX4_servesOne 20 = .ok (.iaload, 1) := by decide +kernel
theorem dX4_servesOne_21 : decode cX4_servesOne 21 = .ok (.invokevirtual 128, 3) := by decide +kernel
theorem dX4_servesOne_24 : decode cX4_servesOne 24 = .ok (.istore_n 2, 1) := by decide +kernel
theorem dX4_servesOne_25 : decode cX4_servesOne 25 = .ok (.aload_n 0, 1) := by decide +kernel
theorem dX4_servesOne_26 : decode cX4_servesOne 26 = .ok (.iconst 0, 1) := by decide +kernel
theorem dX4_servesOne_27 : decode cX4_servesOne 27 = .ok (.putfield 151, 3) := by decide +kernel
theorem dX4_servesOne_30 : decode cX4_servesOne 30 = .ok (.aload_n 0, 1) := by decide +kernel
theorem dX4_servesOne_31 : decode cX4_servesOne 31 = .ok (.iload_n 2, 1) := by decide +kernel
theorem dX4_servesOne_32 : decode cX4_servesOne 32 = .ok (.invokevirtual 169, 3) := by decide +kernel
theorem dX4_servesOne_35 : decode cX4_servesOne 35 = .ok (.ifCond .ne 11, 3) := by decide +kernel
theorem dX4_servesOne_38 : decode cX4_servesOne 38 = .ok (.aload_n 0, 1) := by decide +kernel
theorem dX4_servesOne_39 : decode cX4_servesOne 39 = .ok (.iload_n 2, 1) := by decide +kernel
theorem dX4_servesOne_40 : decode cX4_servesOne 40 = .ok (.invokevirtual 172, 3) := by decide +kernel
theorem dX4_servesOne_43 : decode cX4_servesOne 43 = .ok (.ifCond .eq 41, 3) := by decide +kernel
theorem dX4_servesOne_46 : decode cX4_servesOne 46 = .ok (.iconst 0, 1) := by decide +kernel
theorem dX4_servesOne_47 : decode cX4_servesOne 47 = .ok (.istore_n 3, 1) := by decide +kernel
theorem dX4_servesOne_48 : decode cX4_servesOne 48 = .ok (.iload_n 3, 1) := by decide +kernel
theorem dX4_servesOne_49 : decode cX4_servesOne 49 = .ok (.aload_n 0, 1) := by decide +kernel
theorem dX4_servesOne_50 : decode cX4_servesOne 50 = .ok (.getfield 151, 3) := by decide +kernel
theorem dX4_servesOne_53 : decode cX4_servesOne 53 = .ok (.if_icmp .ge 24, 3) := by decide +kernel
theorem dX4_servesOne_56 : decode cX4_servesOne 56 = .ok (.aload_n 0, 1) := by decide +kernel
theorem dX4_servesOne_57 : decode cX4_servesOne 57 = .ok (.getfield 58, 3) := by decide +kernel
theorem dX4_servesOne_60 : decode cX4_servesOne 60 = .ok (.aload_n 0, 1) := by decide +kernel
theorem dX4_servesOne_61 : decode cX4_servesOne 61 = .ok (.getfield 85, 3) := by decide +kernel
theorem dX4_servesOne_64 : decode cX4_servesOne 64 = .ok (.iload_n 3, 1) := by decide +kernel
theorem dX4_servesOne_65 : decode cX4_servesOne 65 = .ok (.iaload, 1) := by decide +kernel
theorem dX4_servesOne_66 : decode cX4_servesOne 66 = .ok (.dup2, 1) := by decide +kernel
theorem dX4_servesOne_67 : decode cX4_servesOne 67 = .ok (.iaload, 1) := by decide +kernel
theorem dX4_servesOne_68 : decode cX4_servesOne 68 = .ok (.iconst 1, 1) := by decide +kernel
theorem dX4_servesOne_69 : decode cX4_servesOne 69 = .ok (.iadd, 1) := by decide +kernel
theorem dX4_servesOne_70 : decode cX4_servesOne 70 = .ok (.iastore, 1) := by decide +kernel
theorem dX4_servesOne_71 : decode cX4_servesOne 71 = .ok (.iinc 3 1, 3) := by decide +kernel
theorem dX4_servesOne_74 : decode cX4_servesOne 74 = .ok (.goto (-26), 3) := by decide +kernel
theorem dX4_servesOne_77 : decode cX4_servesOne 77 = .ok (.aload_n 0, 1) := by decide +kernel
theorem dX4_servesOne_78 : decode cX4_servesOne 78 = .ok (.iload_n 2, 1) := by decide +kernel
theorem dX4_servesOne_79 : decode cX4_servesOne 79 = .ok (.invokevirtual 175, 3) := by decide +kernel
theorem dX4_servesOne_82 : decode cX4_servesOne 82 = .ok (.iconst 1, 1) := by decide +kernel
theorem dX4_servesOne_83 : decode cX4_servesOne 83 = .ok (.ireturn, 1) := by decide +kernel
theorem dX4_servesOne_84 : decode cX4_servesOne 84 = .ok (.iinc 1 1, 3) := by decide +kernel
theorem dX4_servesOne_87 : decode cX4_servesOne 87 = .ok (.goto (-81), 3) := by decide +kernel
theorem dX4_servesOne_90 : decode cX4_servesOne 90 = .ok (.iconst 0, 1) := by decide +kernel
theorem dX4_servesOne_91 : decode cX4_servesOne 91 = .ok (.ireturn, 1) := by decide +kernel
theorem dX4_serves_0 : decode cX4_serves 0 = .ok (.aload_n 0, 1) := by decide +kernel
theorem dX4_serves_1 : decode cX4_serves 1 = .ok (.invokevirtual 177, 3) := by decide +kernel
theorem dX4_serves_4 : decode cX4_serves 4 = .ok (.iconst 1, 1) := by decide +kernel
theorem dX4_serves_5 : decode cX4_serves 5 = .ok (.istore_n 1, 1) := by decide +kernel
theorem dX4_serves_6 : decode cX4_serves 6 = .ok (.iload_n 1, 1) := by decide +kernel
theorem dX4_serves_7 : decode cX4_serves 7 = .ok (.ifCond .eq 11, 3) := by decide +kernel
theorem dX4_serves_10 : decode cX4_serves 10 = .ok (.aload_n 0, 1) := by decide +kernel
theorem dX4_serves_11 : decode cX4_serves 11 = .ok (.invokevirtual 180, 3) := by decide +kernel
theorem dX4_serves_14 : decode cX4_serves 14 = .ok (.istore_n 1, 1) := by decide +kernel
theorem dX4_serves_15 : decode cX4_serves 15 = .ok (.goto (-9), 3) := by decide +kernel
theorem dX4_serves_18 : decode cX4_serves 18 = .ok (.return_, 1) := by decide +kernel
theorem dX4_addTeam_0 : decode cX4_addTeam 0 = .ok (.aload_n 0, 1) := by decide +kernel
theorem dX4_addTeam_1 : decode cX4_addTeam 1 = .ok (.iload_n 1, 1) := by decide +kernel
theorem dX4_addTeam_2 : decode cX4_addTeam 2 = .ok (.invokevirtual 99, 3) := by decide +kernel
theorem dX4_addTeam_5 : decode cX4_addTeam 5 = .ok (.ifCond .ne 7, 3) := by decide +kernel
theorem dX4_addTeam_8 : decode cX4_addTeam 8 = .ok (.iconst 1, 1) := by decide +kernel
theorem dX4_addTeam_9 : decode cX4_addTeam 9 = .ok (.goto 40, 3) := by decide +kernel
theorem dX4_addTeam_12 : decode cX4_addTeam 12 = .ok (.iload_n 2, 1) := by decide +kernel
theorem dX4_addTeam_13 : decode cX4_addTeam 13 = .ok (.iconst 1, 1) := by decide +kernel
theorem dX4_addTeam_14 : decode cX4_addTeam 14 = .ok (.bipush 9, 2) := by decide +kernel
theorem dX4_addTeam_16 : decode cX4_addTeam 16 = .ok (.invokestatic 91, 3) := by decide +kernel
theorem dX4_addTeam_19 : decode cX4_addTeam 19 = .ok (.ifCond .ne 7, 3) := by decide +kernel
theorem dX4_addTeam_22 : decode cX4_addTeam 22 = .ok (.iconst 2, 1) := by decide +kernel
theorem dX4_addTeam_23 : decode cX4_addTeam 23 = .ok (.goto 26, 3) := by decide +kernel
theorem dX4_addTeam_26 : decode cX4_addTeam 26 = .ok (.aload_n 0, 1) := by decide +kernel
theorem dX4_addTeam_27 : decode cX4_addTeam 27 = .ok (.getfield 16, 3) := by decide +kernel
theorem dX4_addTeam_30 : decode cX4_addTeam 30 = .ok (.bipush 10, 2) := by decide +kernel
theorem dX4_addTeam_32 : decode cX4_addTeam 32 = .ok (.if_icmp .eq 12, 3) := by decide +kernel
theorem dX4_addTeam_35 : decode cX4_addTeam 35 = .ok (.aload_n 0, 1) := by decide +kernel
theorem dX4_addTeam_36 : decode cX4_addTeam 36 = .ok (.getfield 33, 3) := by decide +kernel
theorem dX4_addTeam_39 : decode cX4_addTeam 39 = .ok (.iload_n 1, 1) := by decide +kernel
theorem dX4_addTeam_40 : decode cX4_addTeam 40 = .ok (.baload, 1) := by decide +kernel
theorem dX4_addTeam_41 : decode cX4_addTeam 41 = .ok (.ifCond .eq 7, 3) := by decide +kernel
theorem dX4_addTeam_44 : decode cX4_addTeam 44 = .ok (.iconst 3, 1) := by decide +kernel
theorem dX4_addTeam_45 : decode cX4_addTeam 45 = .ok (.goto 4, 3) := by decide +kernel
theorem dX4_addTeam_48 : decode cX4_addTeam 48 = .ok (.iconst 0, 1) := by decide +kernel
theorem dX4_addTeam_49 : decode cX4_addTeam 49 = .ok (.istore_n 3, 1) := by decide +kernel
theorem dX4_addTeam_50 : decode cX4_addTeam 50 = .ok (.aload_n 0, 1) := by decide +kernel
theorem dX4_addTeam_51 : decode cX4_addTeam 51 = .ok (.iload_n 3, 1) := by decide +kernel
theorem dX4_addTeam_52 : decode cX4_addTeam 52 = .ok (.invokevirtual 184, 3) := by decide +kernel
theorem dX4_addTeam_55 : decode cX4_addTeam 55 = .ok (.ifCond .ne 5, 3) := by decide +kernel
theorem dX4_addTeam_58 : decode cX4_addTeam 58 = .ok (.iconst 0, 1) := by decide +kernel
theorem dX4_addTeam_59 : decode cX4_addTeam 59 = .ok (.ireturn, 1) := by decide +kernel
theorem dX4_addTeam_60 : decode cX4_addTeam 60 = .ok (.aload_n 0, 1) := by decide +kernel
theorem dX4_addTeam_61 : decode cX4_addTeam 61 = .ok (.getfield 19, 3) := by decide +kernel
theorem dX4_addTeam_64 : decode cX4_addTeam 64 = .ok (.aload_n 0, 1) := by decide +kernel
theorem dX4_addTeam_65 : decode cX4_addTeam 65 = .ok (.getfield 16, 3) := by decide +kernel
theorem dX4_addTeam_68 : decode cX4_addTeam 68 = .ok (.iload_n 1, 1) := by decide +kernel
theorem dX4_addTeam_69 : decode cX4_addTeam 69 = .ok (.iastore, 1) := by decide +kernel
theorem dX4_addTeam_70 : decode cX4_addTeam 70 = .ok (.aload_n 0, 1) := by decide +kernel
theorem dX4_addTeam_71 : decode cX4_addTeam 71 = .ok (.getfield 23, 3) := by decide +kernel
theorem dX4_addTeam_74 : decode cX4_addTeam 74 = .ok (.aload_n 0, 1) := by decide +kernel
theorem dX4_addTeam_75 : decode cX4_addTeam 75 = .ok (.getfield 16, 3) := by decide +kernel
theorem dX4_addTeam_78 : decode cX4_addTeam 78 = .ok (.iload_n 2, 1) := by decide +kernel
theorem dX4_addTeam_79 : decode cX4_addTeam 79 = .ok (.iastore, 1) := by decide +kernel
theorem dX4_addTeam_80 : decode cX4_addTeam 80 = .ok (.aload_n 0, 1) := by decide +kernel
theorem dX4_addTeam_81 : decode cX4_addTeam 81 = .ok (.getfield 26, 3) := by decide +kernel
theorem dX4_addTeam_84 : decode cX4_addTeam 84 = .ok (.aload_n 0, 1) := by decide +kernel
theorem dX4_addTeam_85 : decode cX4_addTeam 85 = .ok (.getfield 16, 3) := by decide +kernel
theorem dX4_addTeam_88 : decode cX4_addTeam 88 = .ok (.sipush 500, 3) := by decide +kernel
theorem dX4_addTeam_91 : decode cX4_addTeam 91 = .ok (.iastore, 1) := by decide +kernel
theorem dX4_addTeam_92 : decode cX4_addTeam 92 = .ok (.aload_n 0, 1) := by decide +kernel
theorem dX4_addTeam_93 : decode cX4_addTeam 93 = .ok (.dup, 1) := by decide +kernel
theorem dX4_addTeam_94 : decode cX4_addTeam 94 = .ok (.getfield 16, 3) := by decide +kernel
theorem dX4_addTeam_97 : decode cX4_addTeam 97 = .ok (.iconst 1, 1) := by decide +kernel
theorem dX4_addTeam_98 : decode cX4_addTeam 98 = .ok (.iadd, 1) := by decide +kernel
theorem dX4_addTeam_99 : decode cX4_addTeam 99 = .ok (.putfield 16, 3) := by decide +kernel
theorem dX4_addTeam_102 : decode cX4_addTeam 102 = .ok (.aload_n 0, 1) := by decide +kernel
theorem dX4_addTeam_103 : decode cX4_addTeam 103 = .ok (.invokevirtual 187, 3) := by decide +kernel
theorem dX4_addTeam_106 : decode cX4_addTeam 106 = .ok (.aload_n 0, 1) := by decide +kernel
theorem dX4_addTeam_107 : decode cX4_addTeam 107 = .ok (.getfield 16, 3) := by decide +kernel
theorem dX4_addTeam_110 : decode cX4_addTeam 110 = .ok (.iconst 1, 1) := by decide +kernel
theorem dX4_addTeam_111 : decode cX4_addTeam 111 = .ok (.isub, 1) := by decide +kernel
theorem dX4_addTeam_112 : decode cX4_addTeam 112 = .ok (.ireturn, 1) := by decide +kernel
theorem dX4_setWeight_0 : decode cX4_setWeight 0 = .ok (.aload_n 0, 1) := by decide +kernel
theorem dX4_setWeight_1 : decode cX4_setWeight 1 = .ok (.aload_n 0, 1) := by decide +kernel
theorem dX4_setWeight_2 : decode cX4_setWeight 2 = .ok (.iload_n 1, 1) := by decide +kernel
theorem dX4_setWeight_3 : decode cX4_setWeight 3 = .ok (.invokevirtual 99, 3) := by decide +kernel
theorem dX4_setWeight_6 : decode cX4_setWeight 6 = .ok (.ifCond .ne 7, 3) := by decide +kernel
theorem dX4_setWeight_9 : decode cX4_setWeight 9 = .ok (.iconst 1, 1) := by decide +kernel
theorem dX4_setWeight_10 : decode cX4_setWeight 10 = .ok (.goto 26, 3) := by decide +kernel
theorem dX4_setWeight_13 : decode cX4_setWeight 13 = .ok (.iload_n 1, 1) := by decide +kernel
theorem dX4_setWeight_14 : decode cX4_setWeight 14 = .ok (.ifCond .ne 7, 3) := by decide +kernel
theorem dX4_setWeight_17 : decode cX4_setWeight 17 = .ok (.iconst 2, 1) := by decide +kernel
theorem dX4_setWeight_18 : decode cX4_setWeight 18 = .ok (.goto 18, 3) := by decide +kernel
theorem dX4_setWeight_21 : decode cX4_setWeight 21 = .ok (.iload_n 2, 1) := by decide +kernel
theorem dX4_setWeight_22 : decode cX4_setWeight 22 = .ok (.iconst 1, 1) := by decide +kernel
theorem dX4_setWeight_23 : decode cX4_setWeight 23 = .ok (.bipush 9, 2) := by decide +kernel
theorem dX4_setWeight_25 : decode cX4_setWeight 25 = .ok (.invokestatic 91, 3) := by decide +kernel
theorem dX4_setWeight_28 : decode cX4_setWeight 28 = .ok (.ifCond .ne 7, 3) := by decide +kernel
theorem dX4_setWeight_31 : decode cX4_setWeight 31 = .ok (.iconst 3, 1) := by decide +kernel
theorem dX4_setWeight_32 : decode cX4_setWeight 32 = .ok (.goto 4, 3) := by decide +kernel
theorem dX4_setWeight_35 : decode cX4_setWeight 35 = .ok (.iconst 0, 1) := by decide +kernel
theorem dX4_setWeight_36 : decode cX4_setWeight 36 = .ok (.invokevirtual 184, 3) := by decide +kernel
theorem dX4_setWeight_39 : decode cX4_setWeight 39 = .ok (.ifCond .ne 5, 3) := by decide +kernel
theorem dX4_setWeight_42 : decode cX4_setWeight 42 = .ok (.iconst 0, 1) := by decide +kernel
theorem dX4_setWeight_43 : decode cX4_setWeight 43 = .ok (.ireturn, 1) := by decide +kernel
theorem dX4_setWeight_44 : decode cX4_setWeight 44 = .ok (.aload_n 0, 1) := by decide +kernel
theorem dX4_setWeight_45 : decode cX4_setWeight 45 = .ok (.getfield 23, 3) := by decide +kernel
theorem dX4_setWeight_48 : decode cX4_setWeight 48 = .ok (.iload_n 1, 1) := by decide +kernel
theorem dX4_setWeight_49 : decode cX4_setWeight 49 = .ok (.iaload, 1) := by decide +kernel
theorem dX4_setWeight_50 : decode cX4_setWeight 50 = .ok (.istore_n 3, 1) := by decide +kernel
theorem dX4_setWeight_51 : decode cX4_setWeight 51 = .ok (.aload_n 0, 1) := by decide +kernel
theorem dX4_setWeight_52 : decode cX4_setWeight 52 = .ok (.getfield 23, 3) := by decide +kernel
theorem dX4_setWeight_55 : decode cX4_setWeight 55 = .ok (.iload_n 1, 1) := by decide +kernel
theorem dX4_setWeight_56 : decode cX4_setWeight 56 = .ok (.iload_n 2, 1) := by decide +kernel
theorem dX4_setWeight_57 : decode cX4_setWeight 57 = .ok (.iastore, 1) := by decide +kernel
theorem dX4_setWeight_58 : decode cX4_setWeight 58 = .ok (.aload_n 0, 1) := by decide +kernel
theorem dX4_setWeight_59 : decode cX4_setWeight 59 = .ok (.invokevirtual 187, 3) := by decide +kernel
theorem dX4_setWeight_62 : decode cX4_setWeight 62 = .ok (.iload_n 3, 1) := by decide +kernel
theorem dX4_setWeight_63 : decode cX4_setWeight 63 = .ok (.ireturn, 1) := by decide +kernel
theorem dX4_setLimit_0 : decode cX4_setLimit 0 = .ok (.aload_n 0, 1) := by decide +kernel
theorem dX4_setLimit_1 : decode cX4_setLimit 1 = .ok (.aload_n 0, 1) := by decide +kernel
theorem dX4_setLimit_2 : decode cX4_setLimit 2 = .ok (.iload_n 1, 1) := by decide +kernel
theorem dX4_setLimit_3 : decode cX4_setLimit 3 = .ok (.invokevirtual 99, 3) := by decide +kernel
theorem dX4_setLimit_6 : decode cX4_setLimit 6 = .ok (.ifCond .ne 7, 3) := by decide +kernel
theorem dX4_setLimit_9 : decode cX4_setLimit 9 = .ok (.iconst 1, 1) := by decide +kernel
theorem dX4_setLimit_10 : decode cX4_setLimit 10 = .ok (.goto 27, 3) := by decide +kernel
theorem dX4_setLimit_13 : decode cX4_setLimit 13 = .ok (.iload_n 1, 1) := by decide +kernel
theorem dX4_setLimit_14 : decode cX4_setLimit 14 = .ok (.ifCond .ne 7, 3) := by decide +kernel
theorem dX4_setLimit_17 : decode cX4_setLimit 17 = .ok (.iconst 2, 1) := by decide +kernel
theorem dX4_setLimit_18 : decode cX4_setLimit 18 = .ok (.goto 19, 3) := by decide +kernel
theorem dX4_setLimit_21 : decode cX4_setLimit 21 = .ok (.iload_n 2, 1) := by decide +kernel
theorem dX4_setLimit_22 : decode cX4_setLimit 22 = .ok (.iconst 0, 1) := by decide +kernel
theorem dX4_setLimit_23 : decode cX4_setLimit 23 = .ok (.sipush 500, 3) := by decide +kernel
theorem dX4_setLimit_26 : decode cX4_setLimit 26 = .ok (.invokestatic 91, 3) := by decide +kernel
theorem dX4_setLimit_29 : decode cX4_setLimit 29 = .ok (.ifCond .ne 7, 3) := by decide +kernel
theorem dX4_setLimit_32 : decode cX4_setLimit 32 = .ok (.iconst 3, 1) := by decide +kernel
theorem dX4_setLimit_33 : decode cX4_setLimit 33 = .ok (.goto 4, 3) := by decide +kernel
theorem dX4_setLimit_36 : decode cX4_setLimit 36 = .ok (.iconst 0, 1) := by decide +kernel
theorem dX4_setLimit_37 : decode cX4_setLimit 37 = .ok (.invokevirtual 184, 3) := by decide +kernel
theorem dX4_setLimit_40 : decode cX4_setLimit 40 = .ok (.ifCond .ne 5, 3) := by decide +kernel
theorem dX4_setLimit_43 : decode cX4_setLimit 43 = .ok (.iconst 0, 1) := by decide +kernel
theorem dX4_setLimit_44 : decode cX4_setLimit 44 = .ok (.ireturn, 1) := by decide +kernel
theorem dX4_setLimit_45 : decode cX4_setLimit 45 = .ok (.aload_n 0, 1) := by decide +kernel
theorem dX4_setLimit_46 : decode cX4_setLimit 46 = .ok (.getfield 26, 3) := by decide +kernel
theorem dX4_setLimit_49 : decode cX4_setLimit 49 = .ok (.iload_n 1, 1) := by decide +kernel
theorem dX4_setLimit_50 : decode cX4_setLimit 50 = .ok (.iaload, 1) := by decide +kernel
theorem dX4_setLimit_51 : decode cX4_setLimit 51 = .ok (.istore_n 3, 1) := by decide +kernel
theorem dX4_setLimit_52 : decode cX4_setLimit 52 = .ok (.aload_n 0, 1) := by decide +kernel
theorem dX4_setLimit_53 : decode cX4_setLimit 53 = .ok (.getfield 26, 3) := by decide +kernel
theorem dX4_setLimit_56 : decode cX4_setLimit 56 = .ok (.iload_n 1, 1) := by decide +kernel
theorem dX4_setLimit_57 : decode cX4_setLimit 57 = .ok (.iload_n 2, 1) := by decide +kernel
theorem dX4_setLimit_58 : decode cX4_setLimit 58 = .ok (.iastore, 1) := by decide +kernel
theorem dX4_setLimit_59 : decode cX4_setLimit 59 = .ok (.aload_n 0, 1) := by decide +kernel
theorem dX4_setLimit_60 : decode cX4_setLimit 60 = .ok (.invokevirtual 187, 3) := by decide +kernel
theorem dX4_setLimit_63 : decode cX4_setLimit 63 = .ok (.iload_n 3, 1) := by decide +kernel
theorem dX4_setLimit_64 : decode cX4_setLimit 64 = .ok (.ireturn, 1) := by decide +kernel
theorem dX4_setCapacity_0 : decode cX4_setCapacity 0 = .ok (.aload_n 0, 1) := by decide +kernel
theorem dX4_setCapacity_1 : decode cX4_setCapacity 1 = .ok (.iload_n 1, 1) := by decide +kernel
theorem dX4_setCapacity_2 : decode cX4_setCapacity 2 = .ok (.iconst 0, 1) := by decide +kernel
theorem dX4_setCapacity_3 : decode cX4_setCapacity 3 = .ok (.sipush 200, 3) := by decide +kernel
theorem dX4_setCapacity_6 : decode cX4_setCapacity 6 = .ok (.invokestatic 91, 3) := by decide +kernel
theorem dX4_setCapacity_9 : decode cX4_setCapacity 9 = .ok (.ifCond .ne 7, 3) := by decide +kernel
theorem dX4_setCapacity_12 : decode cX4_setCapacity 12 = .ok (.iconst 1, 1) := by decide +kernel
theorem dX4_setCapacity_13 : decode cX4_setCapacity 13 = .ok (.goto 18, 3) := by decide +kernel
theorem dX4_setCapacity_16 : decode cX4_setCapacity 16 = .ok (.iload_n 1, 1) := by decide +kernel
theorem dX4_setCapacity_17 : decode cX4_setCapacity 17 = .ok (.aload_n 0, 1) := by decide +kernel
theorem dX4_setCapacity_18 : decode cX4_setCapacity 18 = .ok (.getfield 37, 3) := by decide +kernel
theorem dX4_setCapacity_21 : decode cX4_setCapacity 21 = .ok (.iconst 0, 1) := by decide +kernel
theorem dX4_setCapacity_22 : decode cX4_setCapacity 22 = .ok (.iaload, 1) := by decide +kernel
theorem dX4_setCapacity_23 : decode cX4_setCapacity 23 = .ok (.if_icmp .ge 7, 3) := by decide +kernel
theorem dX4_setCapacity_26 : decode cX4_setCapacity 26 = .ok (.iconst 2, 1) := by decide +kernel
theorem dX4_setCapacity_27 : decode cX4_setCapacity 27 = .ok (.goto 4, 3) := by decide +kernel
theorem dX4_setCapacity_30 : decode cX4_setCapacity 30 = .ok (.iconst 0, 1) := by decide +kernel
theorem dX4_setCapacity_31 : decode cX4_setCapacity 31 = .ok (.invokevirtual 184, 3) := by decide +kernel
theorem dX4_setCapacity_34 : decode cX4_setCapacity 34 = .ok (.ifCond .ne 5, 3) := by decide +kernel
theorem dX4_setCapacity_37 : decode cX4_setCapacity 37 = .ok (.iconst 0, 1) := by decide +kernel
theorem dX4_setCapacity_38 : decode cX4_setCapacity 38 = .ok (.ireturn, 1) := by decide +kernel
theorem dX4_setCapacity_39 : decode cX4_setCapacity 39 = .ok (.aload_n 0, 1) := by decide +kernel
theorem dX4_setCapacity_40 : decode cX4_setCapacity 40 = .ok (.getfield 7, 3) := by decide +kernel
theorem dX4_setCapacity_43 : decode cX4_setCapacity 43 = .ok (.istore_n 2, 1) := by decide +kernel
theorem dX4_setCapacity_44 : decode cX4_setCapacity 44 = .ok (.aload_n 0, 1) := by decide +kernel
theorem dX4_setCapacity_45 : decode cX4_setCapacity 45 = .ok (.iload_n 1, 1) := by decide +kernel
theorem dX4_setCapacity_46 : decode cX4_setCapacity 46 = .ok (.putfield 7, 3) := by decide +kernel
theorem dX4_setCapacity_49 : decode cX4_setCapacity 49 = .ok (.aload_n 0, 1) := by decide +kernel
theorem dX4_setCapacity_50 : decode cX4_setCapacity 50 = .ok (.invokevirtual 187, 3) := by decide +kernel
theorem dX4_setCapacity_53 : decode cX4_setCapacity 53 = .ok (.iload_n 2, 1) := by decide +kernel
theorem dX4_setCapacity_54 : decode cX4_setCapacity 54 = .ok (.ireturn, 1) := by decide +kernel
theorem dX4_setHalfTime_0 : decode cX4_setHalfTime 0 = .ok (.aload_n 0, 1) := by decide +kernel
theorem dX4_setHalfTime_1 : decode cX4_setHalfTime 1 = .ok (.iload_n 1, 1) := by decide +kernel
theorem dX4_setHalfTime_2 : decode cX4_setHalfTime 2 = .ok (.iconst 1, 1) := by decide +kernel
theorem dX4_setHalfTime_3 : decode cX4_setHalfTime 3 = .ok (.bipush 100, 2) := by decide +kernel
theorem dX4_setHalfTime_5 : decode cX4_setHalfTime 5 = .ok (.invokestatic 91, 3) := by decide +kernel
theorem dX4_setHalfTime_8 : decode cX4_setHalfTime 8 = .ok (.ifCond .ne 7, 3) := by decide +kernel
theorem dX4_setHalfTime_11 : decode cX4_setHalfTime 11 = .ok (.iconst 1, 1) := by decide +kernel
theorem dX4_setHalfTime_12 : decode cX4_setHalfTime 12 = .ok (.goto 4, 3) := by decide +kernel
theorem dX4_setHalfTime_15 : decode cX4_setHalfTime 15 = .ok (.iconst 0, 1) := by decide +kernel
theorem dX4_setHalfTime_16 : decode cX4_setHalfTime 16 = .ok (.invokevirtual 184, 3) := by decide +kernel
theorem dX4_setHalfTime_19 : decode cX4_setHalfTime 19 = .ok (.ifCond .ne 5, 3) := by decide +kernel
theorem dX4_setHalfTime_22 : decode cX4_setHalfTime 22 = .ok (.iconst 0, 1) := by decide +kernel
theorem dX4_setHalfTime_23 : decode cX4_setHalfTime 23 = .ok (.ireturn, 1) := by decide +kernel
theorem dX4_setHalfTime_24 : decode cX4_setHalfTime 24 = .ok (.aload_n 0, 1) := by decide +kernel
theorem dX4_setHalfTime_25 : decode cX4_setHalfTime 25 = .ok (.getfield 13, 3) := by decide +kernel
theorem dX4_setHalfTime_28 : decode cX4_setHalfTime 28 = .ok (.istore_n 2, 1) := by decide +kernel
theorem dX4_setHalfTime_29 : decode cX4_setHalfTime 29 = .ok (.aload_n 0, 1) := by decide +kernel
theorem dX4_setHalfTime_30 : decode cX4_setHalfTime 30 = .ok (.iload_n 1, 1) := by decide +kernel
theorem dX4_setHalfTime_31 : decode cX4_setHalfTime 31 = .ok (.putfield 13, 3) := by decide +kernel
theorem dX4_setHalfTime_34 : decode cX4_setHalfTime 34 = .ok (.iload_n 2, 1) := by decide +kernel
theorem dX4_setHalfTime_35 : decode cX4_setHalfTime 35 = .ok (.ireturn, 1) := by decide +kernel
theorem dX4_teams_0 : decode cX4_teams 0 = .ok (.aload_n 0, 1) := by decide +kernel
theorem dX4_teams_1 : decode cX4_teams 1 = .ok (.iconst 0, 1) := by decide +kernel
theorem dX4_teams_2 : decode cX4_teams 2 = .ok (.putfield 88, 3) := by decide +kernel
theorem dX4_teams_5 : decode cX4_teams 5 = .ok (.aload_n 0, 1) := by decide +kernel
theorem dX4_teams_6 : decode cX4_teams 6 = .ok (.getfield 16, 3) := by decide +kernel
theorem dX4_teams_9 : decode cX4_teams 9 = .ok (.ireturn, 1) := by decide +kernel
theorem dX4_parentOf_0 : decode cX4_parentOf 0 = .ok (.aload_n 0, 1) := by decide +kernel
theorem dX4_parentOf_1 : decode cX4_parentOf 1 = .ok (.aload_n 0, 1) := by decide +kernel
theorem dX4_parentOf_2 : decode cX4_parentOf 2 = .ok (.iload_n 1, 1) := by decide +kernel
theorem dX4_parentOf_3 : decode cX4_parentOf 3 = .ok (.invokevirtual 99, 3) := by decide +kernel
theorem dX4_parentOf_6 : decode cX4_parentOf 6 = .ok (.ifCond .ne 7, 3) := by decide +kernel
theorem dX4_parentOf_9 : decode cX4_parentOf 9 = .ok (.iconst 1, 1) := by decide +kernel
theorem dX4_parentOf_10 : decode cX4_parentOf 10 = .ok (.goto 12, 3) := by decide +kernel
theorem dX4_parentOf_13 : decode cX4_parentOf 13 = .ok (.iload_n 1, 1) := by decide +kernel
theorem dX4_parentOf_14 : decode cX4_parentOf 14 = .ok (.ifCond .ne 7, 3) := by decide +kernel
theorem dX4_parentOf_17 : decode cX4_parentOf 17 = .ok (.iconst 2, 1) := by decide +kernel
theorem dX4_parentOf_18 : decode cX4_parentOf 18 = .ok (.goto 4, 3) := by decide +kernel
theorem dX4_parentOf_21 : decode cX4_parentOf 21 = .ok (.iconst 0, 1) := by decide +kernel
theorem dX4_parentOf_22 : decode cX4_parentOf 22 = .ok (.invokevirtual 184, 3) := by decide +kernel
theorem dX4_parentOf_25 : decode cX4_parentOf 25 = .ok (.ifCond .eq 12, 3) := by decide +kernel
theorem dX4_parentOf_28 : decode cX4_parentOf 28 = .ok (.aload_n 0, 1) := by decide +kernel
theorem dX4_parentOf_29 : decode cX4_parentOf 29 = .ok (.getfield 19, 3) := by decide +kernel
theorem dX4_parentOf_32 : decode cX4_parentOf 32 = .ok (.iload_n 1, 1) := by decide +kernel
theorem dX4_parentOf_33 : decode cX4_parentOf 33 = .ok (.iaload, 1) := by decide +kernel
theorem dX4_parentOf_34 : decode cX4_parentOf 34 = .ok (.goto 4, 3) := by decide +kernel
theorem dX4_parentOf_37 : decode cX4_parentOf 37 = .ok (.iconst 0, 1) := by decide +kernel
theorem dX4_parentOf_38 : decode cX4_parentOf 38 = .ok (.ireturn, 1) := by decide +kernel
theorem dX4_children_0 : decode cX4_children 0 = .ok (.aload_n 0, 1) := by decide +kernel
theorem dX4_children_1 : decode cX4_children 1 = .ok (.aload_n 0, 1) := by decide +kernel
theorem dX4_children_2 : decode cX4_children 2 = .ok (.iload_n 1, 1) := by decide +kernel
theorem dX4_children_3 : decode cX4_children 3 = .ok (.invokevirtual 99, 3) := by decide +kernel
theorem dX4_children_6 : decode cX4_children 6 = .ok (.ifCond .eq 7, 3) := by decide +kernel
theorem dX4_children_9 : decode cX4_children 9 = .ok (.iconst 0, 1) := by decide +kernel
theorem dX4_children_10 : decode cX4_children 10 = .ok (.goto 4, 3) := by decide +kernel
theorem dX4_children_13 : decode cX4_children 13 = .ok (.iconst 1, 1) := by decide +kernel
theorem dX4_children_14 : decode cX4_children 14 = .ok (.invokevirtual 184, 3) := by decide +kernel
theorem dX4_children_17 : decode cX4_children 17 = .ok (.ifCond .eq 11, 3) := by decide +kernel
theorem dX4_children_20 : decode cX4_children 20 = .ok (.aload_n 0, 1) := by decide +kernel
theorem dX4_children_21 : decode cX4_children 21 = .ok (.iload_n 1, 1) := by decide +kernel
theorem dX4_children_22 : decode cX4_children 22 = .ok (.invokevirtual 95, 3) := by decide +kernel
theorem dX4_children_25 : decode cX4_children 25 = .ok (.goto 4, 3) := by decide +kernel
theorem dX4_children_28 : decode cX4_children 28 = .ok (.iconst 0, 1) := by decide +kernel
theorem dX4_children_29 : decode cX4_children 29 = .ok (.ireturn, 1) := by decide +kernel
theorem dX4_submit_0 : decode cX4_submit 0 = .ok (.aload_n 0, 1) := by decide +kernel
theorem dX4_submit_1 : decode cX4_submit 1 = .ok (.iload_n 1, 1) := by decide +kernel
theorem dX4_submit_2 : decode cX4_submit 2 = .ok (.invokevirtual 99, 3) := by decide +kernel
theorem dX4_submit_5 : decode cX4_submit 5 = .ok (.ifCond .ne 7, 3) := by decide +kernel
theorem dX4_submit_8 : decode cX4_submit 8 = .ok (.iconst 1, 1) := by decide +kernel
theorem dX4_submit_9 : decode cX4_submit 9 = .ok (.goto 53, 3) := by decide +kernel
theorem dX4_submit_12 : decode cX4_submit 12 = .ok (.iload_n 2, 1) := by decide +kernel
theorem dX4_submit_13 : decode cX4_submit 13 = .ok (.iconst 1, 1) := by decide +kernel
theorem dX4_submit_14 : decode cX4_submit 14 = .ok (.bipush 60, 2) := by decide +kernel
theorem dX4_submit_16 : decode cX4_submit 16 = .ok (.invokestatic 91, 3) := by decide +kernel
theorem dX4_submit_19 : decode cX4_submit 19 = .ok (.ifCond .eq 13, 3) := by decide +kernel
theorem dX4_submit_22 : decode cX4_submit 22 = .ok (.iload_n 3, 1) := by decide +kernel
theorem dX4_submit_23 : decode cX4_submit 23 = .ok (.iconst 1, 1) := by decide +kernel
theorem dX4_submit_24 : decode cX4_submit 24 = .ok (.bipush 50, 2) := by decide +kernel
theorem dX4_submit_26 : decode cX4_submit 26 = .ok (.invokestatic 91, 3) := by decide +kernel
theorem dX4_submit_29 : decode cX4_submit 29 = .ok (.ifCond .ne 7, 3) := by decide +kernel
theorem dX4_submit_32 : decode cX4_submit 32 = .ok (.iconst 2, 1) := by decide +kernel
theorem dX4_submit_33 : decode cX4_submit 33 = .ok (.goto 29, 3) := by decide +kernel
theorem dX4_submit_36 : decode cX4_submit 36 = .ok (.aload_n 0, 1) := by decide +kernel
theorem dX4_submit_37 : decode cX4_submit 37 = .ok (.iload_n 1, 1) := by decide +kernel
theorem dX4_submit_38 : decode cX4_submit 38 = .ok (.invokevirtual 103, 3) := by decide +kernel
theorem dX4_submit_41 : decode cX4_submit 41 = .ok (.ifCond .ne 7, 3) := by decide +kernel
theorem dX4_submit_44 : decode cX4_submit 44 = .ok (.iconst 3, 1) := by decide +kernel
theorem dX4_submit_45 : decode cX4_submit 45 = .ok (.goto 17, 3) := by decide +kernel
theorem dX4_submit_48 : decode cX4_submit 48 = .ok (.aload_n 0, 1) := by decide +kernel
theorem dX4_submit_49 : decode cX4_submit 49 = .ok (.getfield 190, 3) := by decide +kernel
theorem dX4_submit_52 : decode cX4_submit 52 = .ok (.bipush 40, 2) := by decide +kernel
theorem dX4_submit_54 : decode cX4_submit 54 = .ok (.if_icmp .ne 7, 3) := by decide +kernel
theorem dX4_submit_57 : decode cX4_submit 57 = .ok (.iconst 4, 1) := by decide +kernel
theorem dX4_submit_58 : decode cX4_submit 58 = .ok (.goto 4, 3) := by decide +kernel
theorem dX4_submit_61 : decode cX4_submit 61 = .ok (.iconst 0, 1) := by decide +kernel
theorem dX4_submit_62 : decode cX4_submit 62 = .ok (.istore 4, 2) := by decide +kernel
theorem dX4_submit_64 : decode cX4_submit 64 = .ok (.aload_n 0, 1) := by decide +kernel
theorem dX4_submit_65 : decode cX4_submit 65 = .ok (.iload 4, 2) := by decide +kernel
theorem dX4_submit_67 : decode cX4_submit 67 = .ok (.invokevirtual 184, 3) := by decide +kernel
theorem dX4_submit_70 : decode cX4_submit 70 = .ok (.ifCond .ne 5, 3) := by decide +kernel
theorem dX4_submit_73 : decode cX4_submit 73 = .ok (.iconst 0, 1) := by decide +kernel
theorem dX4_submit_74 : decode cX4_submit 74 = .ok (.ireturn, 1) := by decide +kernel
theorem dX4_submit_75 : decode cX4_submit 75 = .ok (.aload_n 0, 1) := by decide +kernel
theorem dX4_submit_76 : decode cX4_submit 76 = .ok (.getfield 122, 3) := by decide +kernel
theorem dX4_submit_79 : decode cX4_submit 79 = .ok (.istore 5, 2) := by decide +kernel
theorem dX4_submit_81 : decode cX4_submit 81 = .ok (.aload_n 0, 1) := by decide +kernel
theorem dX4_submit_82 : decode cX4_submit 82 = .ok (.getfield 43, 3) := by decide +kernel
theorem dX4_submit_85 : decode cX4_submit 85 = .ok (.iload 5, 2) := by decide +kernel
theorem dX4_submit_87 : decode cX4_submit 87 = .ok (.iload_n 1, 1) := by decide +kernel
theorem dX4_submit_88 : decode cX4_submit 88 = .ok (.iastore, 1) := by decide +kernel
theorem dX4_submit_89 : decode cX4_submit 89 = .ok (.aload_n 0, 1) := by decide +kernel
theorem dX4_submit_90 : decode cX4_submit 90 = .ok (.getfield 46, 3) := by decide +kernel
theorem dX4_submit_93 : decode cX4_submit 93 = .ok (.iload 5, 2) := by decide +kernel
theorem dX4_submit_95 : decode cX4_submit 95 = .ok (.iload_n 2, 1) := by decide +kernel
theorem dX4_submit_96 : decode cX4_submit 96 = .ok (.iastore, 1) := by decide +kernel
theorem dX4_submit_97 : decode cX4_submit 97 = .ok (.aload_n 0, 1) := by decide +kernel
theorem dX4_submit_98 : decode cX4_submit 98 = .ok (.getfield 49, 3) := by decide +kernel
theorem dX4_submit_101 : decode cX4_submit 101 = .ok (.iload 5, 2) := by decide +kernel
theorem dX4_submit_103 : decode cX4_submit 103 = .ok (.iload_n 3, 1) := by decide +kernel
theorem dX4_submit_104 : decode cX4_submit 104 = .ok (.iastore, 1) := by decide +kernel
theorem dX4_submit_105 : decode cX4_submit 105 = .ok (.aload_n 0, 1) := by decide +kernel
theorem dX4_submit_106 : decode cX4_submit 106 = .ok (.getfield 55, 3) := by decide +kernel
theorem dX4_submit_109 : decode cX4_submit 109 = .ok (.iload 5, 2) := by decide +kernel
theorem dX4_submit_111 : decode cX4_submit 111 = .ok (.iconst 0, 1) := by decide +kernel
theorem dX4_submit_112 : decode cX4_submit 112 = .ok (.iastore, 1) := by decide +kernel
theorem dX4_submit_113 : decode cX4_submit 113 = .ok (.aload_n 0, 1) := by decide +kernel
theorem dX4_submit_114 : decode cX4_submit 114 = .ok (.getfield 40, 3) := by decide +kernel
theorem dX4_submit_117 : decode cX4_submit 117 = .ok (.iload_n 1, 1) := by decide +kernel
theorem dX4_submit_118 : decode cX4_submit 118 = .ok (.dup2, 1) := by decide +kernel
theorem dX4_submit_119 : decode cX4_submit 119 = .ok (.iaload, 1) := by decide +kernel
theorem dX4_submit_120 : decode cX4_submit 120 = .ok (.iload_n 2, 1) := by decide +kernel
theorem dX4_submit_121 : decode cX4_submit 121 = .ok (.iadd, 1) := by decide +kernel
theorem dX4_submit_122 : decode cX4_submit 122 = .ok (.iastore, 1) := by decide +kernel
theorem dX4_submit_123 : decode cX4_submit 123 = .ok (.aload_n 0, 1) := by decide +kernel
theorem dX4_submit_124 : decode cX4_submit 124 = .ok (.getfield 33, 3) := by decide +kernel
theorem dX4_submit_127 : decode cX4_submit 127 = .ok (.iload_n 1, 1) := by decide +kernel
theorem dX4_submit_128 : decode cX4_submit 128 = .ok (.iconst 1, 1) := by decide +kernel
theorem dX4_submit_129 : decode cX4_submit 129 = .ok (.bastore, 1) := by decide +kernel
theorem dX4_submit_130 : decode cX4_submit 130 = .ok (.aload_n 0, 1) := by decide +kernel
theorem dX4_submit_131 : decode cX4_submit 131 = .ok (.dup, 1) := by decide +kernel
theorem dX4_submit_132 : decode cX4_submit 132 = .ok (.getfield 122, 3) := by decide +kernel
theorem dX4_submit_135 : decode cX4_submit 135 = .ok (.iconst 1, 1) := by decide +kernel
theorem dX4_submit_136 : decode cX4_submit 136 = .ok (.iadd, 1) := by decide +kernel
theorem dX4_submit_137 : decode cX4_submit 137 = .ok (.putfield 122, 3) := by decide +kernel
theorem dX4_submit_140 : decode cX4_submit 140 = .ok (.aload_n 0, 1) := by decide +kernel
theorem dX4_submit_141 : decode cX4_submit 141 = .ok (.dup, 1) := by decide +kernel
theorem dX4_submit_142 : decode cX4_submit 142 = .ok (.getfield 190, 3) := by decide +kernel
theorem dX4_submit_145 : decode cX4_submit 145 = .ok (.iconst 1, 1) := by decide +kernel
theorem dX4_submit_146 : decode cX4_submit 146 = .ok (.iadd, 1) := by decide +kernel
theorem dX4_submit_147 : decode cX4_submit 147 = .ok (.putfield 190, 3) := by decide +kernel
theorem dX4_submit_150 : decode cX4_submit 150 = .ok (.aload_n 0, 1) := by decide +kernel
theorem dX4_submit_151 : decode cX4_submit 151 = .ok (.invokevirtual 187, 3) := by decide +kernel
theorem dX4_submit_154 : decode cX4_submit 154 = .ok (.iload 5, 2) := by decide +kernel
theorem dX4_submit_156 : decode cX4_submit 156 = .ok (.ireturn, 1) := by decide +kernel
theorem dX4_isJob_0 : decode cX4_isJob 0 = .ok (.iload_n 1, 1) := by decide +kernel
theorem dX4_isJob_1 : decode cX4_isJob 1 = .ok (.iconst 0, 1) := by decide +kernel
theorem dX4_isJob_2 : decode cX4_isJob 2 = .ok (.aload_n 0, 1) := by decide +kernel
theorem dX4_isJob_3 : decode cX4_isJob 3 = .ok (.getfield 122, 3) := by decide +kernel
theorem dX4_isJob_6 : decode cX4_isJob 6 = .ok (.iconst 1, 1) := by decide +kernel
theorem dX4_isJob_7 : decode cX4_isJob 7 = .ok (.isub, 1) := by decide +kernel
theorem dX4_isJob_8 : decode cX4_isJob 8 = .ok (.invokestatic 91, 3) := by decide +kernel
theorem dX4_isJob_11 : decode cX4_isJob 11 = .ok (.ireturn, 1) := by decide +kernel
theorem dX4_liveFault_0 : decode cX4_liveFault 0 = .ok (.aload_n 0, 1) := by decide +kernel
theorem dX4_liveFault_1 : decode cX4_liveFault 1 = .ok (.iload_n 1, 1) := by decide +kernel
theorem dX4_liveFault_2 : decode cX4_liveFault 2 = .ok (.invokevirtual 193, 3) := by decide +kernel
theorem dX4_liveFault_5 : decode cX4_liveFault 5 = .ok (.ifCond .ne 7, 3) := by decide +kernel
theorem dX4_liveFault_8 : decode cX4_liveFault 8 = .ok (.iconst 1, 1) := by decide +kernel
theorem dX4_liveFault_9 : decode cX4_liveFault 9 = .ok (.goto 27, 3) := by decide +kernel
theorem dX4_liveFault_12 : decode cX4_liveFault 12 = .ok (.aload_n 0, 1) := by decide +kernel
theorem dX4_liveFault_13 : decode cX4_liveFault 13 = .ok (.getfield 55, 3) := by decide +kernel
theorem dX4_liveFault_16 : decode cX4_liveFault 16 = .ok (.iload_n 1, 1) := by decide +kernel
theorem dX4_liveFault_17 : decode cX4_liveFault 17 = .ok (.iaload, 1) := by decide +kernel
theorem dX4_liveFault_18 : decode cX4_liveFault 18 = .ok (.ifCond .eq 17, 3) := by decide +kernel
theorem dX4_liveFault_21 : decode cX4_liveFault 21 = .ok (.aload_n 0, 1) := by decide +kernel
theorem dX4_liveFault_22 : decode cX4_liveFault 22 = .ok (.getfield 55, 3) := by decide +kernel
theorem dX4_liveFault_25 : decode cX4_liveFault 25 = .ok (.iload_n 1, 1) := by decide +kernel
theorem dX4_liveFault_26 : decode cX4_liveFault 26 = .ok (.iaload, 1) := by decide +kernel
theorem dX4_liveFault_27 : decode cX4_liveFault 27 = .ok (.iconst 1, 1) := by decide +kernel
theorem dX4_liveFault_28 : decode cX4_liveFault 28 = .ok (.if_icmp .eq 7, 3) := by decide +kernel
theorem dX4_liveFault_31 : decode cX4_liveFault 31 = .ok (.iconst 2, 1) := by decide +kernel
theorem dX4_liveFault_32 : decode cX4_liveFault 32 = .ok (.goto 4, 3) := by decide +kernel
theorem dX4_liveFault_35 : decode cX4_liveFault 35 = .ok (.iconst 0, 1) := by decide +kernel
theorem dX4_liveFault_36 : decode cX4_liveFault 36 = .ok (.ireturn, 1) := by decide +kernel
theorem dX4_leaves_0 : decode cX4_leaves 0 = .ok (.aload_n 0, 1) := by decide +kernel
theorem dX4_leaves_1 : decode cX4_leaves 1 = .ok (.getfield 55, 3) := by decide +kernel
theorem dX4_leaves_4 : decode cX4_leaves 4 = .ok (.iload_n 1, 1) := by decide +kernel
theorem dX4_leaves_5 : decode cX4_leaves 5 = .ok (.iaload, 1) := by decide +kernel
theorem dX4_leaves_6 : decode cX4_leaves 6 = .ok (.iconst 1, 1) := by decide +kernel
theorem dX4_leaves_7 : decode cX4_leaves 7 = .ok (.if_icmp .ne 23, 3) := by decide +kernel
theorem dX4_leaves_10 : decode cX4_leaves 10 = .ok (.aload_n 0, 1) := by decide +kernel
theorem dX4_leaves_11 : decode cX4_leaves 11 = .ok (.aload_n 0, 1) := by decide +kernel
theorem dX4_leaves_12 : decode cX4_leaves 12 = .ok (.getfield 43, 3) := by decide +kernel
theorem dX4_leaves_15 : decode cX4_leaves 15 = .ok (.iload_n 1, 1) := by decide +kernel
theorem dX4_leaves_16 : decode cX4_leaves 16 = .ok (.iaload, 1) := by decide +kernel
theorem dX4_leaves_17 : decode cX4_leaves 17 = .ok (.aload_n 0, 1) := by decide +kernel
theorem dX4_leaves_18 : decode cX4_leaves 18 = .ok (.getfield 46, 3) := by decide +kernel
theorem dX4_leaves_21 : decode cX4_leaves 21 = .ok (.iload_n 1, 1) := by decide +kernel
theorem dX4_leaves_22 : decode cX4_leaves 22 = .ok (.iaload, 1) := by decide +kernel
theorem dX4_leaves_23 : decode cX4_leaves 23 = .ok (.ineg, 1) := by decide +kernel
theorem dX4_leaves_24 : decode cX4_leaves 24 = .ok (.invokevirtual 138, 3) := by decide +kernel
theorem dX4_leaves_27 : decode cX4_leaves 27 = .ok (.goto 23, 3) := by decide +kernel
theorem dX4_leaves_30 : decode cX4_leaves 30 = .ok (.aload_n 0, 1) := by decide +kernel
theorem dX4_leaves_31 : decode cX4_leaves 31 = .ok (.getfield 40, 3) := by decide +kernel
theorem dX4_leaves_34 : decode cX4_leaves 34 = .ok (.aload_n 0, 1) := by decide +kernel
theorem dX4_leaves_35 : decode cX4_leaves 35 = .ok (.getfield 43, 3) := by decide +kernel
theorem dX4_leaves_38 : decode cX4_leaves 38 = .ok (.iload_n 1, 1) := by decide +kernel
theorem dX4_leaves_39 : decode cX4_leaves 39 = .ok (.iaload, 1) := by decide +kernel
theorem dX4_leaves_40 : decode cX4_leaves 40 = .ok (.dup2, 1) := by decide +kernel
theorem dX4_leaves_41 : decode cX4_leaves 41 = .ok (.iaload, 1) := by decide +kernel
theorem dX4_leaves_42 : decode cX4_leaves 42 = .ok (.aload_n 0, 1) := by decide +kernel
theorem dX4_leaves_43 : decode cX4_leaves 43 = .ok (.getfield 46, 3) := by decide +kernel
theorem dX4_leaves_46 : decode cX4_leaves 46 = .ok (.iload_n 1, 1) := by decide +kernel
theorem dX4_leaves_47 : decode cX4_leaves 47 = .ok (.iaload, 1) := by decide +kernel
theorem dX4_leaves_48 : decode cX4_leaves 48 = .ok (.isub, 1) := by decide +kernel
theorem dX4_leaves_49 : decode cX4_leaves 49 = .ok (.iastore, 1) := by decide +kernel
theorem dX4_leaves_50 : decode cX4_leaves 50 = .ok (.aload_n 0, 1) := by decide +kernel
theorem dX4_leaves_51 : decode cX4_leaves 51 = .ok (.getfield 55, 3) := by decide +kernel
theorem dX4_leaves_54 : decode cX4_leaves 54 = .ok (.iload_n 1, 1) := by decide +kernel
theorem dX4_leaves_55 : decode cX4_leaves 55 = .ok (.iload_n 2, 1) := by decide +kernel
theorem dX4_leaves_56 : decode cX4_leaves 56 = .ok (.iastore, 1) := by decide +kernel
theorem dX4_leaves_57 : decode cX4_leaves 57 = .ok (.aload_n 0, 1) := by decide +kernel
theorem dX4_leaves_58 : decode cX4_leaves 58 = .ok (.dup, 1) := by decide +kernel
theorem dX4_leaves_59 : decode cX4_leaves 59 = .ok (.getfield 190, 3) := by decide +kernel
theorem dX4_leaves_62 : decode cX4_leaves 62 = .ok (.iconst 1, 1) := by decide +kernel
theorem dX4_leaves_63 : decode cX4_leaves 63 = .ok (.isub, 1) := by decide +kernel
theorem dX4_leaves_64 : decode cX4_leaves 64 = .ok (.putfield 190, 3) := by decide +kernel
theorem dX4_leaves_67 : decode cX4_leaves 67 = .ok (.return_, 1) := by decide +kernel
theorem dX4_cancel_0 : decode cX4_cancel 0 = .ok (.aload_n 0, 1) := by decide +kernel
theorem dX4_cancel_1 : decode cX4_cancel 1 = .ok (.aload_n 0, 1) := by decide +kernel
theorem dX4_cancel_2 : decode cX4_cancel 2 = .ok (.iload_n 1, 1) := by decide +kernel
theorem dX4_cancel_3 : decode cX4_cancel 3 = .ok (.invokevirtual 196, 3) := by decide +kernel
theorem dX4_cancel_6 : decode cX4_cancel 6 = .ok (.invokevirtual 184, 3) := by decide +kernel
theorem dX4_cancel_9 : decode cX4_cancel 9 = .ok (.ifCond .ne 5, 3) := by decide +kernel
theorem dX4_cancel_12 : decode cX4_cancel 12 = .ok (.iconst 0, 1) := by decide +kernel
theorem dX4_cancel_13 : decode cX4_cancel 13 = .ok (.ireturn, 1) := by decide +kernel
theorem dX4_cancel_14 : decode cX4_cancel 14 = .ok (.aload_n 0, 1) := by decide +kernel
theorem dX4_cancel_15 : decode cX4_cancel 15 = .ok (.getfield 55, 3) := by decide +kernel
theorem dX4_cancel_18 : decode cX4_cancel 18 = .ok (.iload_n 1, 1) := by decide +kernel
theorem dX4_cancel_19 : decode cX4_cancel 19 = .ok (.iaload, 1) := by decide +kernel
theorem dX4_cancel_20 : decode cX4_cancel 20 = .ok (.iconst 1, 1) := by decide +kernel
theorem dX4_cancel_21 : decode cX4_cancel 21 = .ok (.if_icmp .ne 12, 3) := by decide +kernel
theorem dX4_cancel_24 : decode cX4_cancel 24 = .ok (.aload_n 0, 1) := by decide +kernel
theorem dX4_cancel_25 : decode cX4_cancel 25 = .ok (.getfield 46, 3) := by decide +kernel
theorem dX4_cancel_28 : decode cX4_cancel 28 = .ok (.iload_n 1, 1) := by decide +kernel
theorem dX4_cancel_29 : decode cX4_cancel 29 = .ok (.iaload, 1) := by decide +kernel
theorem dX4_cancel_30 : decode cX4_cancel 30 = .ok (.goto 4, 3) := by decide +kernel
theorem dX4_cancel_33 : decode cX4_cancel 33 = .ok (.iconst 0, 1) := by decide +kernel
theorem dX4_cancel_34 : decode cX4_cancel 34 = .ok (.istore_n 2, 1) := by decide +kernel
theorem dX4_cancel_35 : decode cX4_cancel 35 = .ok (.aload_n 0, 1) := by decide +kernel
theorem dX4_cancel_36 : decode cX4_cancel 36 = .ok (.iload_n 1, 1) := by decide +kernel
theorem dX4_cancel_37 : decode cX4_cancel 37 = .ok (.iconst 3, 1) := by decide +kernel
theorem dX4_cancel_38 : decode cX4_cancel 38 = .ok (.invokevirtual 199, 3) := by decide +kernel
theorem dX4_cancel_41 : decode cX4_cancel 41 = .ok (.aload_n 0, 1) := by decide +kernel
theorem dX4_cancel_42 : decode cX4_cancel 42 = .ok (.invokevirtual 187, 3) := by decide +kernel
theorem dX4_cancel_45 : decode cX4_cancel 45 = .ok (.iload_n 2, 1) := by decide +kernel
theorem dX4_cancel_46 : decode cX4_cancel 46 = .ok (.ireturn, 1) := by decide +kernel
theorem dX4_passesOne_0 : decode cX4_passesOne 0 = .ok (.aload_n 0, 1) := by decide +kernel
theorem dX4_passesOne_1 : decode cX4_passesOne 1 = .ok (.dup, 1) := by decide +kernel
theorem dX4_passesOne_2 : decode cX4_passesOne 2 = .ok (.getfield 116, 3) := by decide +kernel
theorem dX4_passesOne_5 : decode cX4_passesOne 5 = .ok (.iconst 1, 1) := by decide +kernel
theorem dX4_passesOne_6 : decode cX4_passesOne 6 = .ok (.iadd, 1) := by decide +kernel
theorem dX4_passesOne_7 : decode cX4_passesOne 7 = .ok (.putfield 116, 3) := by decide +kernel
theorem dX4_passesOne_10 : decode cX4_passesOne 10 = .ok (.iconst 0, 1) := by decide +kernel
theorem dX4_passesOne_11 : decode cX4_passesOne 11 = .ok (.istore_n 1, 1) := by decide +kernel
theorem dX4_passesOne_12 : decode cX4_passesOne 12 = .ok (.iconst 0, 1) := by decide +kernel
theorem dX4_passesOne_13 : decode cX4_passesOne 13 = .ok (.istore_n 2, 1) := by decide +kernel
theorem dX4_passesOne_14 : decode cX4_passesOne 14 = .ok (.iload_n 2, 1) := by decide +kernel
theorem dX4_passesOne_15 : decode cX4_passesOne 15 = .ok (.aload_n 0, 1) := by decide +kernel
theorem dX4_passesOne_16 : decode cX4_passesOne 16 = .ok (.getfield 122, 3) := by decide +kernel
theorem dX4_passesOne_19 : decode cX4_passesOne 19 = .ok (.if_icmp .ge 50, 3) := by decide +kernel
theorem dX4_passesOne_22 : decode cX4_passesOne 22 = .ok (.aload_n 0, 1) := by decide +kernel
theorem dX4_passesOne_23 : decode cX4_passesOne 23 = .ok (.getfield 55, 3) := by decide +kernel
theorem dX4_passesOne_26 : decode cX4_passesOne 26 = .ok (.iload_n 2, 1) := by decide +kernel
theorem dX4_passesOne_27 : decode cX4_passesOne 27 = .ok (.iaload, 1) := by decide +kernel
theorem dX4_passesOne_28 : decode cX4_passesOne 28 = .ok (.iconst 1, 1) := by decide +kernel
theorem dX4_passesOne_29 : decode cX4_passesOne 29 = .ok (.if_icmp .eq 6, 3) := by decide +kernel
theorem dX4_passesOne_32 : decode cX4_passesOne 32 = .ok (.goto 31, 3) := by decide +kernel
theorem dX4_passesOne_35 : decode cX4_passesOne 35 = .ok (.aload_n 0, 1) := by decide +kernel
theorem dX4_passesOne_36 : decode cX4_passesOne 36 = .ok (.getfield 52, 3) := by decide +kernel
theorem dX4_passesOne_39 : decode cX4_passesOne 39 = .ok (.iload_n 2, 1) := by decide +kernel
theorem dX4_passesOne_40 : decode cX4_passesOne 40 = .ok (.dup2, 1) := by decide +kernel
theorem dX4_passesOne_41 : decode cX4_passesOne 41 = .ok (.iaload, 1) := by decide +kernel
theorem dX4_passesOne_42 : decode cX4_passesOne 42 = .ok (.iconst 1, 1) := by decide +kernel
theorem dX4_passesOne_43 : decode cX4_passesOne 43 = .ok (.isub, 1) := by decide +kernel
theorem dX4_passesOne_44 : decode cX4_passesOne 44 = .ok (.iastore, 1) := by decide +kernel
theorem dX4_passesOne_45 : decode cX4_passesOne 45 = .ok (.aload_n 0, 1) := by decide +kernel
theorem dX4_passesOne_46 : decode cX4_passesOne 46 = .ok (.getfield 52, 3) := by decide +kernel
theorem dX4_passesOne_49 : decode cX4_passesOne 49 = .ok (.iload_n 2, 1) := by decide +kernel
theorem dX4_passesOne_50 : decode cX4_passesOne 50 = .ok (.iaload, 1) := by decide +kernel
theorem dX4_passesOne_51 : decode cX4_passesOne 51 = .ok (.ifCond .ne 12, 3) := by decide +kernel
theorem dX4_passesOne_54 : decode cX4_passesOne 54 = .ok (.aload_n 0, 1) := by decide +kernel
theorem dX4_passesOne_55 : decode cX4_passesOne 55 = .ok (.iload_n 2, 1) := by decide +kernel
theorem dX4_passesOne_56 : decode cX4_passesOne 56 = .ok (.iconst 2, 1) := by decide +kernel
theorem dX4_passesOne_57 : decode cX4_passesOne 57 = .ok (.invokevirtual 199, 3) := by decide +kernel
theorem dX4_passesOne_60 : decode cX4_passesOne 60 = .ok (.iinc 1 1, 3) := by decide +kernel
theorem dX4_passesOne_63 : decode cX4_passesOne 63 = .ok (.iinc 2 1, 3) := by decide +kernel
theorem dX4_passesOne_66 : decode cX4_passesOne 66 = .ok (.goto (-52), 3) := by decide +kernel
theorem dX4_passesOne_69 : decode cX4_passesOne 69 = .ok (.iconst 0, 1) := by decide +kernel
theorem dX4_passesOne_70 : decode cX4_passesOne 70 = .ok (.istore_n 2, 1) := by decide +kernel
theorem dX4_passesOne_71 : decode cX4_passesOne 71 = .ok (.iload_n 2, 1) := by decide +kernel
theorem dX4_passesOne_72 : decode cX4_passesOne 72 = .ok (.aload_n 0, 1) := by decide +kernel
theorem dX4_passesOne_73 : decode cX4_passesOne 73 = .ok (.getfield 16, 3) := by decide +kernel
theorem dX4_passesOne_76 : decode cX4_passesOne 76 = .ok (.if_icmp .ge 74, 3) := by decide +kernel
theorem dX4_passesOne_79 : decode cX4_passesOne 79 = .ok (.aload_n 0, 1) := by decide +kernel
theorem dX4_passesOne_80 : decode cX4_passesOne 80 = .ok (.getfield 29, 3) := by decide +kernel
theorem dX4_passesOne_83 : decode cX4_passesOne 83 = .ok (.iload_n 2, 1) := by decide +kernel
theorem dX4_passesOne_84 : decode cX4_passesOne 84 = .ok (.dup2, 1) := by decide +kernel
theorem dX4_passesOne_85 : decode cX4_passesOne 85 = .ok (.laload, 1) := by decide +kernel
theorem dX4_passesOne_86 : decode cX4_passesOne 86 = .ok (.aload_n 0, 1) := by decide +kernel
theorem dX4_passesOne_87 : decode cX4_passesOne 87 = .ok (.iload_n 2, 1) := by decide +kernel
theorem dX4_passesOne_88 : decode cX4_passesOne 88 = .ok (.invokevirtual 103, 3) := by decide +kernel
theorem dX4_passesOne_91 : decode cX4_passesOne 91 = .ok (.ifCond .eq 13, 3) := by decide +kernel
theorem dX4_passesOne_94 : decode cX4_passesOne 94 = .ok (.aload_n 0, 1) := by decide +kernel
theorem dX4_passesOne_95 : decode cX4_passesOne 95 = .ok (.getfield 37, 3) := by decide +kernel
theorem dX4_passesOne_98 : decode cX4_passesOne 98 = .ok (.iload_n 2, 1) := by decide +kernel
theorem dX4_passesOne_99 : decode cX4_passesOne 99 = .ok (.iaload, 1) := by decide +kernel
theorem dX4_passesOne_100 : decode cX4_passesOne 100 = .ok (.i2l, 1) := by decide +kernel
theorem dX4_passesOne_101 : decode cX4_passesOne 101 = .ok (.goto 4, 3) := by decide +kernel
theorem dX4_passesOne_104 : decode cX4_passesOne 104 = .ok (.lconst 0, 1) := by decide +kernel
theorem dX4_passesOne_105 : decode cX4_passesOne 105 = .ok (.ladd, 1) := by decide +kernel
theorem dX4_passesOne_106 : decode cX4_passesOne 106 = .ok (.lastore, 1) := by decide +kernel
theorem dX4_passesOne_107 : decode cX4_passesOne 107 = .ok (.aload_n 0, 1) := by decide +kernel
theorem dX4_passesOne_108 : decode cX4_passesOne 108 = .ok (.getfield 29, 3) := by decide +kernel
theorem dX4_passesOne_111 : decode cX4_passesOne 111 = .ok (.iload_n 2, 1) := by decide +kernel
theorem dX4_passesOne_112 : decode cX4_passesOne 112 = .ok (.aload_n 0, 1) := by decide +kernel
theorem dX4_passesOne_113 : decode cX4_passesOne 113 = .ok (.getfield 116, 3) := by decide +kernel
theorem dX4_passesOne_116 : decode cX4_passesOne 116 = .ok (.aload_n 0, 1) := by decide +kernel
theorem dX4_passesOne_117 : decode cX4_passesOne 117 = .ok (.getfield 13, 3) := by decide +kernel
theorem dX4_passesOne_120 : decode cX4_passesOne 120 = .ok (.irem, 1) := by decide +kernel
theorem dX4_passesOne_121 : decode cX4_passesOne 121 = .ok (.ifCond .ne 16, 3) := by decide +kernel
theorem dX4_passesOne_124 : decode cX4_passesOne 124 = .ok (.aload_n 0, 1) := by decide +kernel
theorem dX4_passesOne_125 : decode cX4_passesOne 125 = .ok (.getfield 29, 3) := by decide +kernel
theorem dX4_passesOne_128 : decode cX4_passesOne 128 = .ok (.iload_n 2, 1) := by decide +kernel
theorem dX4_passesOne_129 : decode cX4_passesOne 129 = .ok (.laload, 1) := by decide +kernel
theorem dX4_passesOne_130 : decode cX4_passesOne 130 = .ok (.ldc2_w 202, 3) := by decide +kernel
theorem dX4_passesOne_133 : decode cX4_passesOne 133 = .ok (.ldiv, 1) := by decide +kernel
theorem dX4_passesOne_134 : decode cX4_passesOne 134 = .ok (.goto 9, 3) := by decide +kernel
theorem dX4_passesOne_137 : decode cX4_passesOne 137 = .ok (.aload_n 0, 1) := by decide +kernel
theorem dX4_passesOne_138 : decode cX4_passesOne 138 = .ok (.getfield 29, 3) := by decide +kernel
theorem dX4_passesOne_141 : decode cX4_passesOne 141 = .ok (.iload_n 2, 1) := by decide +kernel
theorem dX4_passesOne_142 : decode cX4_passesOne 142 = .ok (.laload, 1) := by decide +kernel
theorem dX4_passesOne_143 : decode cX4_passesOne 143 = .ok (.lastore, 1) := by decide +kernel
theorem dX4_passesOne_144 : decode cX4_passesOne 144 = .ok (.iinc 2 1, 3) := by decide +kernel
theorem dX4_passesOne_147 : decode cX4_passesOne 147 = .ok (.goto (-76), 3) := by decide +kernel
theorem dX4_passesOne_150 : decode cX4_passesOne 150 = .ok (.aload_n 0, 1) := by decide +kernel
theorem dX4_passesOne_151 : decode cX4_passesOne 151 = .ok (.invokevirtual 187, 3) := by decide +kernel
theorem dX4_passesOne_154 : decode cX4_passesOne 154 = .ok (.iload_n 1, 1) := by decide +kernel
theorem dX4_passesOne_155 : decode cX4_passesOne 155 = .ok (.ireturn, 1) := by decide +kernel
theorem dX4_pass_0 : decode cX4_pass 0 = .ok (.aload_n 0, 1) := by decide +kernel
theorem dX4_pass_1 : decode cX4_pass 1 = .ok (.iload_n 1, 1) := by decide +kernel
theorem dX4_pass_2 : decode cX4_pass 2 = .ok (.iconst 1, 1) := by decide +kernel
theorem dX4_pass_3 : decode cX4_pass 3 = .ok (.bipush 20, 2) := by decide +kernel
theorem dX4_pass_5 : decode cX4_pass 5 = .ok (.invokestatic 91, 3) := by decide +kernel
theorem dX4_pass_8 : decode cX4_pass 8 = .ok (.ifCond .eq 7, 3) := by decide +kernel
theorem dX4_pass_11 : decode cX4_pass 11 = .ok (.iconst 0, 1) := by decide +kernel
theorem dX4_pass_12 : decode cX4_pass 12 = .ok (.goto 4, 3) := by decide +kernel
theorem dX4_pass_15 : decode cX4_pass 15 = .ok (.iconst 1, 1) := by decide +kernel
theorem dX4_pass_16 : decode cX4_pass 16 = .ok (.invokevirtual 184, 3) := by decide +kernel
theorem dX4_pass_19 : decode cX4_pass 19 = .ok (.ifCond .ne 5, 3) := by decide +kernel
theorem dX4_pass_22 : decode cX4_pass 22 = .ok (.iconst 0, 1) := by decide +kernel
theorem dX4_pass_23 : decode cX4_pass 23 = .ok (.ireturn, 1) := by decide +kernel
theorem dX4_pass_24 : decode cX4_pass 24 = .ok (.iconst 0, 1) := by decide +kernel
theorem dX4_pass_25 : decode cX4_pass 25 = .ok (.istore_n 2, 1) := by decide +kernel
theorem dX4_pass_26 : decode cX4_pass 26 = .ok (.iconst 0, 1) := by decide +kernel
theorem dX4_pass_27 : decode cX4_pass 27 = .ok (.istore_n 3, 1) := by decide +kernel
theorem dX4_pass_28 : decode cX4_pass 28 = .ok (.iload_n 3, 1) := by decide +kernel
theorem dX4_pass_29 : decode cX4_pass 29 = .ok (.iload_n 1, 1) := by decide +kernel
theorem dX4_pass_30 : decode cX4_pass 30 = .ok (.if_icmp .ge 16, 3) := by decide +kernel
theorem dX4_pass_33 : decode cX4_pass 33 = .ok (.iload_n 2, 1) := by decide +kernel
theorem dX4_pass_34 : decode cX4_pass 34 = .ok (.aload_n 0, 1) := by decide +kernel
theorem dX4_pass_35 : decode cX4_pass 35 = .ok (.invokevirtual 204, 3) := by decide +kernel
theorem dX4_pass_38 : decode cX4_pass 38 = .ok (.iadd, 1) := by decide +kernel
theorem dX4_pass_39 : decode cX4_pass 39 = .ok (.istore_n 2, 1) := by decide +kernel
theorem dX4_pass_40 : decode cX4_pass 40 = .ok (.iinc 3 1, 3) := by decide +kernel
theorem dX4_pass_43 : decode cX4_pass 43 = .ok (.goto (-15), 3) := by decide +kernel
theorem dX4_pass_46 : decode cX4_pass 46 = .ok (.iload_n 2, 1) := by decide +kernel
theorem dX4_pass_47 : decode cX4_pass 47 = .ok (.ireturn, 1) := by decide +kernel
theorem dX4_tick_0 : decode cX4_tick 0 = .ok (.aload_n 0, 1) := by decide +kernel
theorem dX4_tick_1 : decode cX4_tick 1 = .ok (.iconst 0, 1) := by decide +kernel
theorem dX4_tick_2 : decode cX4_tick 2 = .ok (.putfield 88, 3) := by decide +kernel
theorem dX4_tick_5 : decode cX4_tick 5 = .ok (.aload_n 0, 1) := by decide +kernel
theorem dX4_tick_6 : decode cX4_tick 6 = .ok (.getfield 116, 3) := by decide +kernel
theorem dX4_tick_9 : decode cX4_tick 9 = .ok (.ireturn, 1) := by decide +kernel
theorem dX4_jobs_0 : decode cX4_jobs 0 = .ok (.aload_n 0, 1) := by decide +kernel
theorem dX4_jobs_1 : decode cX4_jobs 1 = .ok (.iconst 0, 1) := by decide +kernel
theorem dX4_jobs_2 : decode cX4_jobs 2 = .ok (.putfield 88, 3) := by decide +kernel
theorem dX4_jobs_5 : decode cX4_jobs 5 = .ok (.aload_n 0, 1) := by decide +kernel
theorem dX4_jobs_6 : decode cX4_jobs 6 = .ok (.getfield 122, 3) := by decide +kernel
theorem dX4_jobs_9 : decode cX4_jobs 9 = .ok (.ireturn, 1) := by decide +kernel
theorem dX4_stateOf_0 : decode cX4_stateOf 0 = .ok (.aload_n 0, 1) := by decide +kernel
theorem dX4_stateOf_1 : decode cX4_stateOf 1 = .ok (.aload_n 0, 1) := by decide +kernel
theorem dX4_stateOf_2 : decode cX4_stateOf 2 = .ok (.iload_n 1, 1) := by decide +kernel
theorem dX4_stateOf_3 : decode cX4_stateOf 3 = .ok (.invokevirtual 193, 3) := by decide +kernel
theorem dX4_stateOf_6 : decode cX4_stateOf 6 = .ok (.ifCond .eq 7, 3) := by decide +kernel
theorem dX4_stateOf_9 : decode cX4_stateOf 9 = .ok (.iconst 0, 1) := by decide +kernel
theorem dX4_stateOf_10 : decode cX4_stateOf 10 = .ok (.goto 4, 3) := by decide +kernel
theorem dX4_stateOf_13 : decode cX4_stateOf 13 = .ok (.iconst 1, 1) := by decide +kernel
theorem dX4_stateOf_14 : decode cX4_stateOf 14 = .ok (.invokevirtual 184, 3) := by decide +kernel
theorem dX4_stateOf_17 : decode cX4_stateOf 17 = .ok (.ifCond .ne 5, 3) := by decide +kernel
theorem dX4_stateOf_20 : decode cX4_stateOf 20 = .ok (.iconst 0, 1) := by decide +kernel
theorem dX4_stateOf_21 : decode cX4_stateOf 21 = .ok (.ireturn, 1) := by decide +kernel
theorem dX4_stateOf_22 : decode cX4_stateOf 22 = .ok (.aload_n 0, 1) := by decide +kernel
theorem dX4_stateOf_23 : decode cX4_stateOf 23 = .ok (.getfield 55, 3) := by decide +kernel
theorem dX4_stateOf_26 : decode cX4_stateOf 26 = .ok (.iload_n 1, 1) := by decide +kernel
theorem dX4_stateOf_27 : decode cX4_stateOf 27 = .ok (.iaload, 1) := by decide +kernel
theorem dX4_stateOf_28 : decode cX4_stateOf 28 = .ok (.ifCond .ne 8, 3) := by decide +kernel
theorem dX4_stateOf_31 : decode cX4_stateOf 31 = .ok (.bipush 119, 2) := by decide +kernel
theorem dX4_stateOf_33 : decode cX4_stateOf 33 = .ok (.goto 35, 3) := by decide +kernel
theorem dX4_stateOf_36 : decode cX4_stateOf 36 = .ok (.aload_n 0, 1) := by decide +kernel
theorem dX4_stateOf_37 : decode cX4_stateOf 37 = .ok (.getfield 55, 3) := by decide +kernel
theorem dX4_stateOf_40 : decode cX4_stateOf 40 = .ok (.iload_n 1, 1) := by decide +kernel
theorem dX4_stateOf_41 : decode cX4_stateOf 41 = .ok (.iaload, 1) := by decide +kernel
theorem dX4_stateOf_42 : decode cX4_stateOf 42 = .ok (.iconst 1, 1) := by decide +kernel
theorem dX4_stateOf_43 : decode cX4_stateOf 43 = .ok (.if_icmp .ne 8, 3) := by decide +kernel
theorem dX4_stateOf_46 : decode cX4_stateOf 46 = .ok (.bipush 114, 2) := by decide +kernel
theorem dX4_stateOf_48 : decode cX4_stateOf 48 = .ok (.goto 20, 3) := by decide +kernel
theorem dX4_stateOf_51 : decode cX4_stateOf 51 = .ok (.aload_n 0, 1) := by decide +kernel
theorem dX4_stateOf_52 : decode cX4_stateOf 52 = .ok (.getfield 55, 3) := by decide +kernel
theorem dX4_stateOf_55 : decode cX4_stateOf 55 = .ok (.iload_n 1, 1) := by decide +kernel
theorem dX4_stateOf_56 : decode cX4_stateOf 56 = .ok (.iaload, 1) := by decide +kernel
theorem dX4_stateOf_57 : decode cX4_stateOf 57 = .ok (.iconst 2, 1) := by decide +kernel
theorem dX4_stateOf_58 : decode cX4_stateOf 58 = .ok (.if_icmp .ne 8, 3) := by decide +kernel
theorem dX4_stateOf_61 : decode cX4_stateOf 61 = .ok (.bipush 101, 2) := by decide +kernel
theorem dX4_stateOf_63 : decode cX4_stateOf 63 = .ok (.goto 5, 3) := by decide +kernel
theorem dX4_stateOf_66 : decode cX4_stateOf 66 = .ok (.bipush 99, 2) := by decide +kernel
theorem dX4_stateOf_68 : decode cX4_stateOf 68 = .ok (.ireturn, 1) := by decide +kernel
theorem dX4_toGo_0 : decode cX4_toGo 0 = .ok (.aload_n 0, 1) := by decide +kernel
theorem dX4_toGo_1 : decode cX4_toGo 1 = .ok (.aload_n 0, 1) := by decide +kernel
theorem dX4_toGo_2 : decode cX4_toGo 2 = .ok (.iload_n 1, 1) := by decide +kernel
theorem dX4_toGo_3 : decode cX4_toGo 3 = .ok (.invokevirtual 196, 3) := by decide +kernel
theorem dX4_toGo_6 : decode cX4_toGo 6 = .ok (.invokevirtual 184, 3) := by decide +kernel
theorem dX4_toGo_9 : decode cX4_toGo 9 = .ok (.ifCond .eq 30, 3) := by decide +kernel
theorem dX4_toGo_12 : decode cX4_toGo 12 = .ok (.aload_n 0, 1) := by decide +kernel
theorem dX4_toGo_13 : decode cX4_toGo 13 = .ok (.getfield 55, 3) := by decide +kernel
theorem dX4_toGo_16 : decode cX4_toGo 16 = .ok (.iload_n 1, 1) := by decide +kernel
theorem dX4_toGo_17 : decode cX4_toGo 17 = .ok (.iaload, 1) := by decide +kernel
theorem dX4_toGo_18 : decode cX4_toGo 18 = .ok (.ifCond .ne 12, 3) := by decide +kernel
theorem dX4_toGo_21 : decode cX4_toGo 21 = .ok (.aload_n 0, 1) := by decide +kernel
theorem dX4_toGo_22 : decode cX4_toGo 22 = .ok (.getfield 49, 3) := by decide +kernel
theorem dX4_toGo_25 : decode cX4_toGo 25 = .ok (.iload_n 1, 1) := by decide +kernel
theorem dX4_toGo_26 : decode cX4_toGo 26 = .ok (.iaload, 1) := by decide +kernel
theorem dX4_toGo_27 : decode cX4_toGo 27 = .ok (.goto 13, 3) := by decide +kernel
theorem dX4_toGo_30 : decode cX4_toGo 30 = .ok (.aload_n 0, 1) := by decide +kernel
theorem dX4_toGo_31 : decode cX4_toGo 31 = .ok (.getfield 52, 3) := by decide +kernel
theorem dX4_toGo_34 : decode cX4_toGo 34 = .ok (.iload_n 1, 1) := by decide +kernel
theorem dX4_toGo_35 : decode cX4_toGo 35 = .ok (.iaload, 1) := by decide +kernel
theorem dX4_toGo_36 : decode cX4_toGo 36 = .ok (.goto 4, 3) := by decide +kernel
theorem dX4_toGo_39 : decode cX4_toGo 39 = .ok (.iconst 0, 1) := by decide +kernel
theorem dX4_toGo_40 : decode cX4_toGo 40 = .ok (.ireturn, 1) := by decide +kernel
theorem dX4_stops_0 : decode cX4_stops 0 = .ok (.aload_n 0, 1) := by decide +kernel
theorem dX4_stops_1 : decode cX4_stops 1 = .ok (.aload_n 0, 1) := by decide +kernel
theorem dX4_stops_2 : decode cX4_stops 2 = .ok (.iload_n 1, 1) := by decide +kernel
theorem dX4_stops_3 : decode cX4_stops 3 = .ok (.invokevirtual 193, 3) := by decide +kernel
theorem dX4_stops_6 : decode cX4_stops 6 = .ok (.ifCond .eq 7, 3) := by decide +kernel
theorem dX4_stops_9 : decode cX4_stops 9 = .ok (.iconst 0, 1) := by decide +kernel
theorem dX4_stops_10 : decode cX4_stops 10 = .ok (.goto 4, 3) := by decide +kernel
theorem dX4_stops_13 : decode cX4_stops 13 = .ok (.iconst 1, 1) := by decide +kernel
theorem dX4_stops_14 : decode cX4_stops 14 = .ok (.invokevirtual 184, 3) := by decide +kernel
theorem dX4_stops_17 : decode cX4_stops 17 = .ok (.ifCond .eq 12, 3) := by decide +kernel
theorem dX4_stops_20 : decode cX4_stops 20 = .ok (.aload_n 0, 1) := by decide +kernel
theorem dX4_stops_21 : decode cX4_stops 21 = .ok (.getfield 58, 3) := by decide +kernel
theorem dX4_stops_24 : decode cX4_stops 24 = .ok (.iload_n 1, 1) := by decide +kernel
theorem dX4_stops_25 : decode cX4_stops 25 = .ok (.iaload, 1) := by decide +kernel
theorem dX4_stops_26 : decode cX4_stops 26 = .ok (.goto 4, 3) := by decide +kernel
theorem dX4_stops_29 : decode cX4_stops 29 = .ok (.iconst 0, 1) := by decide +kernel
theorem dX4_stops_30 : decode cX4_stops 30 = .ok (.ireturn, 1) := by decide +kernel
theorem dX4_firstOf_0 : decode cX4_firstOf 0 = .ok (.aload_n 0, 1) := by decide +kernel
theorem dX4_firstOf_1 : decode cX4_firstOf 1 = .ok (.iload_n 1, 1) := by decide +kernel
theorem dX4_firstOf_2 : decode cX4_firstOf 2 = .ok (.invokevirtual 208, 3) := by decide +kernel
theorem dX4_firstOf_5 : decode cX4_firstOf 5 = .ok (.istore_n 2, 1) := by decide +kernel
theorem dX4_firstOf_6 : decode cX4_firstOf 6 = .ok (.iload_n 2, 1) := by decide +kernel
theorem dX4_firstOf_7 : decode cX4_firstOf 7 = .ok (.ifCond .ne 16, 3) := by decide +kernel
theorem dX4_firstOf_10 : decode cX4_firstOf 10 = .ok (.aload_n 0, 1) := by decide +kernel
theorem dX4_firstOf_11 : decode cX4_firstOf 11 = .ok (.iload_n 1, 1) := by decide +kernel
theorem dX4_firstOf_12 : decode cX4_firstOf 12 = .ok (.invokevirtual 128, 3) := by decide +kernel
theorem dX4_firstOf_15 : decode cX4_firstOf 15 = .ok (.iconst (-1), 1) := by decide +kernel
theorem dX4_firstOf_16 : decode cX4_firstOf 16 = .ok (.if_icmp .ne 7, 3) := by decide +kernel
theorem dX4_firstOf_19 : decode cX4_firstOf 19 = .ok (.iconst 3, 1) := by decide +kernel
theorem dX4_firstOf_20 : decode cX4_firstOf 20 = .ok (.goto 4, 3) := by decide +kernel
theorem dX4_firstOf_23 : decode cX4_firstOf 23 = .ok (.iload_n 2, 1) := by decide +kernel
theorem dX4_firstOf_24 : decode cX4_firstOf 24 = .ok (.istore_n 2, 1) := by decide +kernel
theorem dX4_firstOf_25 : decode cX4_firstOf 25 = .ok (.aload_n 0, 1) := by decide +kernel
theorem dX4_firstOf_26 : decode cX4_firstOf 26 = .ok (.iload_n 2, 1) := by decide +kernel
theorem dX4_firstOf_27 : decode cX4_firstOf 27 = .ok (.invokevirtual 184, 3) := by decide +kernel
theorem dX4_firstOf_30 : decode cX4_firstOf 30 = .ok (.ifCond .eq 11, 3) := by decide +kernel
theorem dX4_firstOf_33 : decode cX4_firstOf 33 = .ok (.aload_n 0, 1) := by decide +kernel
theorem dX4_firstOf_34 : decode cX4_firstOf 34 = .ok (.iload_n 1, 1) := by decide +kernel
theorem dX4_firstOf_35 : decode cX4_firstOf 35 = .ok (.invokevirtual 128, 3) := by decide +kernel
theorem dX4_firstOf_38 : decode cX4_firstOf 38 = .ok (.goto 4, 3) := by decide +kernel
theorem dX4_firstOf_41 : decode cX4_firstOf 41 = .ok (.iconst 0, 1) := by decide +kernel
theorem dX4_firstOf_42 : decode cX4_firstOf 42 = .ok (.ireturn, 1) := by decide +kernel
theorem dX4_inLine_0 : decode cX4_inLine 0 = .ok (.aload_n 0, 1) := by decide +kernel
theorem dX4_inLine_1 : decode cX4_inLine 1 = .ok (.invokevirtual 166, 3) := by decide +kernel
theorem dX4_inLine_4 : decode cX4_inLine 4 = .ok (.aload_n 0, 1) := by decide +kernel
theorem dX4_inLine_5 : decode cX4_inLine 5 = .ok (.iload_n 1, 1) := by decide +kernel
theorem dX4_inLine_6 : decode cX4_inLine 6 = .ok (.iconst 0, 1) := by decide +kernel
theorem dX4_inLine_7 : decode cX4_inLine 7 = .ok (.aload_n 0, 1) := by decide +kernel
theorem dX4_inLine_8 : decode cX4_inLine 8 = .ok (.getfield 125, 3) := by decide +kernel
theorem dX4_inLine_11 : decode cX4_inLine 11 = .ok (.iconst 1, 1) := by decide +kernel
theorem dX4_inLine_12 : decode cX4_inLine 12 = .ok (.isub, 1) := by decide +kernel
theorem dX4_inLine_13 : decode cX4_inLine 13 = .ok (.invokestatic 91, 3) := by decide +kernel
theorem dX4_inLine_16 : decode cX4_inLine 16 = .ok (.ifCond .eq 7, 3) := by decide +kernel
theorem dX4_inLine_19 : decode cX4_inLine 19 = .ok (.iconst 0, 1) := by decide +kernel
theorem dX4_inLine_20 : decode cX4_inLine 20 = .ok (.goto 4, 3) := by decide +kernel
theorem dX4_inLine_23 : decode cX4_inLine 23 = .ok (.iconst 1, 1) := by decide +kernel
theorem dX4_inLine_24 : decode cX4_inLine 24 = .ok (.invokevirtual 184, 3) := by decide +kernel
theorem dX4_inLine_27 : decode cX4_inLine 27 = .ok (.ifCond .eq 12, 3) := by decide +kernel
theorem dX4_inLine_30 : decode cX4_inLine 30 = .ok (.aload_n 0, 1) := by decide +kernel
theorem dX4_inLine_31 : decode cX4_inLine 31 = .ok (.getfield 82, 3) := by decide +kernel
theorem dX4_inLine_34 : decode cX4_inLine 34 = .ok (.iload_n 1, 1) := by decide +kernel
theorem dX4_inLine_35 : decode cX4_inLine 35 = .ok (.iaload, 1) := by decide +kernel
theorem dX4_inLine_36 : decode cX4_inLine 36 = .ok (.goto 4, 3) := by decide +kernel
theorem dX4_inLine_39 : decode cX4_inLine 39 = .ok (.iconst 0, 1) := by decide +kernel
theorem dX4_inLine_40 : decode cX4_inLine 40 = .ok (.ireturn, 1) := by decide +kernel
theorem dX4_spanOf_0 : decode cX4_spanOf 0 = .ok (.iconst 0, 1) := by decide +kernel
theorem dX4_spanOf_1 : decode cX4_spanOf 1 = .ok (.istore 4, 2) := by decide +kernel
theorem dX4_spanOf_3 : decode cX4_spanOf 3 = .ok (.iload 4, 2) := by decide +kernel
theorem dX4_spanOf_5 : decode cX4_spanOf 5 = .ok (.aload_n 0, 1) := by decide +kernel
theorem dX4_spanOf_6 : decode cX4_spanOf 6 = .ok (.getfield 113, 3) := by decide +kernel
theorem dX4_spanOf_9 : decode cX4_spanOf 9 = .ok (.if_icmp .ge 45, 3) := by decide +kernel
theorem dX4_spanOf_12 : decode cX4_spanOf 12 = .ok (.aload_n 0, 1) := by decide +kernel
theorem dX4_spanOf_13 : decode cX4_spanOf 13 = .ok (.getfield 64, 3) := by decide +kernel
theorem dX4_spanOf_16 : decode cX4_spanOf 16 = .ok (.iload 4, 2) := by decide +kernel
theorem dX4_spanOf_18 : decode cX4_spanOf 18 = .ok (.iaload, 1) := by decide +kernel
theorem dX4_spanOf_19 : decode cX4_spanOf 19 = .ok (.iload_n 1, 1) := by decide +kernel
theorem dX4_spanOf_20 : decode cX4_spanOf 20 = .ok (.if_icmp .ne 28, 3) := by decide +kernel
theorem dX4_spanOf_23 : decode cX4_spanOf 23 = .ok (.aload_n 0, 1) := by decide +kernel
theorem dX4_spanOf_24 : decode cX4_spanOf 24 = .ok (.getfield 70, 3) := by decide +kernel
theorem dX4_spanOf_27 : decode cX4_spanOf 27 = .ok (.iload 4, 2) := by decide +kernel
theorem dX4_spanOf_29 : decode cX4_spanOf 29 = .ok (.iaload, 1) := by decide +kernel
theorem dX4_spanOf_30 : decode cX4_spanOf 30 = .ok (.iload_n 2, 1) := by decide +kernel
theorem dX4_spanOf_31 : decode cX4_spanOf 31 = .ok (.if_icmp .ne 17, 3) := by decide +kernel
theorem dX4_spanOf_34 : decode cX4_spanOf 34 = .ok (.aload_n 0, 1) := by decide +kernel
theorem dX4_spanOf_35 : decode cX4_spanOf 35 = .ok (.getfield 73, 3) := by decide +kernel
theorem dX4_spanOf_38 : decode cX4_spanOf 38 = .ok (.iload 4, 2) := by decide +kernel
theorem dX4_spanOf_40 : decode cX4_spanOf 40 = .ok (.iaload, 1) := by decide +kernel
theorem dX4_spanOf_41 : decode cX4_spanOf 41 = .ok (.iload_n 3, 1) := by decide +kernel
theorem dX4_spanOf_42 : decode cX4_spanOf 42 = .ok (.if_icmp .ne 6, 3) := by decide +kernel
theorem dX4_spanOf_45 : decode cX4_spanOf 45 = .ok (.iload 4, 2) := by decide +kernel
theorem dX4_spanOf_47 : decode cX4_spanOf 47 = .ok (.ireturn, 1) := by decide +kernel
theorem dX4_spanOf_48 : decode cX4_spanOf 48 = .ok (.iinc 4 1, 3) := by decide +kernel
theorem dX4_spanOf_51 : decode cX4_spanOf 51 = .ok (.goto (-48), 3) := by decide +kernel
theorem dX4_spanOf_54 : decode cX4_spanOf 54 = .ok (.iconst (-1), 1) := by decide +kernel
theorem dX4_spanOf_55 : decode cX4_spanOf 55 = .ok (.ireturn, 1) := by decide +kernel
theorem dX4_reserveFault_0 : decode cX4_reserveFault 0 = .ok (.aload_n 0, 1) := by decide +kernel
theorem dX4_reserveFault_1 : decode cX4_reserveFault 1 = .ok (.iload_n 1, 1) := by decide +kernel
theorem dX4_reserveFault_2 : decode cX4_reserveFault 2 = .ok (.invokevirtual 99, 3) := by decide +kernel
theorem dX4_reserveFault_5 : decode cX4_reserveFault 5 = .ok (.ifCond .ne 5, 3) := by decide +kernel
theorem dX4_reserveFault_8 : decode cX4_reserveFault 8 = .ok (.iconst 1, 1) := by decide +kernel
theorem dX4_reserveFault_9 : decode cX4_reserveFault 9 = .ok (.ireturn, 1) := by decide +kernel
theorem dX4_reserveFault_10 : decode cX4_reserveFault 10 = .ok (.aload_n 0, 1) := by decide +kernel
theorem dX4_reserveFault_11 : decode cX4_reserveFault 11 = .ok (.iload_n 1, 1) := by decide +kernel
theorem dX4_reserveFault_12 : decode cX4_reserveFault 12 = .ok (.iload_n 3, 1) := by decide +kernel
theorem dX4_reserveFault_13 : decode cX4_reserveFault 13 = .ok (.iload 4, 2) := by decide +kernel
theorem dX4_reserveFault_15 : decode cX4_reserveFault 15 = .ok (.invokevirtual 211, 3) := by decide +kernel
theorem dX4_reserveFault_18 : decode cX4_reserveFault 18 = .ok (.istore 5, 2) := by decide +kernel
theorem dX4_reserveFault_20 : decode cX4_reserveFault 20 = .ok (.iload_n 2, 1) := by decide +kernel
theorem dX4_reserveFault_21 : decode cX4_reserveFault 21 = .ok (.iconst 1, 1) := by decide +kernel
theorem dX4_reserveFault_22 : decode cX4_reserveFault 22 = .ok (.bipush 60, 2) := by decide +kernel
theorem dX4_reserveFault_24 : decode cX4_reserveFault 24 = .ok (.invokestatic 91, 3) := by decide +kernel
theorem dX4_reserveFault_27 : decode cX4_reserveFault 27 = .ok (.ifCond .eq 49, 3) := by decide +kernel
theorem dX4_reserveFault_30 : decode cX4_reserveFault 30 = .ok (.iload_n 3, 1) := by decide +kernel
theorem dX4_reserveFault_31 : decode cX4_reserveFault 31 = .ok (.iconst 0, 1) := by decide +kernel
theorem dX4_reserveFault_32 : decode cX4_reserveFault 32 = .ok (.sipush 9999, 3) := by decide +kernel
theorem dX4_reserveFault_35 : decode cX4_reserveFault 35 = .ok (.invokestatic 91, 3) := by decide +kernel
theorem dX4_reserveFault_38 : decode cX4_reserveFault 38 = .ok (.ifCond .eq 38, 3) := by decide +kernel
theorem dX4_reserveFault_41 : decode cX4_reserveFault 41 = .ok (.iload 4, 2) := by decide +kernel
theorem dX4_reserveFault_43 : decode cX4_reserveFault 43 = .ok (.iload_n 3, 1) := by decide +kernel
theorem dX4_reserveFault_44 : decode cX4_reserveFault 44 = .ok (.if_icmp .le 32, 3) := by decide +kernel
theorem dX4_reserveFault_47 : decode cX4_reserveFault 47 = .ok (.iload 4, 2) := by decide +kernel
theorem dX4_reserveFault_49 : decode cX4_reserveFault 49 = .ok (.sipush 9999, 3) := by decide +kernel
theorem dX4_reserveFault_52 : decode cX4_reserveFault 52 = .ok (.if_icmp .gt 24, 3) := by decide +kernel
theorem dX4_reserveFault_55 : decode cX4_reserveFault 55 = .ok (.iload 5, 2) := by decide +kernel
theorem dX4_reserveFault_57 : decode cX4_reserveFault 57 = .ok (.iconst (-1), 1) := by decide +kernel
theorem dX4_reserveFault_58 : decode cX4_reserveFault 58 = .ok (.if_icmp .eq 20, 3) := by decide +kernel
theorem dX4_reserveFault_61 : decode cX4_reserveFault 61 = .ok (.aload_n 0, 1) := by decide +kernel
theorem dX4_reserveFault_62 : decode cX4_reserveFault 62 = .ok (.getfield 67, 3) := by decide +kernel
theorem dX4_reserveFault_65 : decode cX4_reserveFault 65 = .ok (.iload 5, 2) := by decide +kernel
theorem dX4_reserveFault_67 : decode cX4_reserveFault 67 = .ok (.iaload, 1) := by decide +kernel
theorem dX4_reserveFault_68 : decode cX4_reserveFault 68 = .ok (.iload_n 2, 1) := by decide +kernel
theorem dX4_reserveFault_69 : decode cX4_reserveFault 69 = .ok (.iadd, 1) := by decide +kernel
theorem dX4_reserveFault_70 : decode cX4_reserveFault 70 = .ok (.sipush 200, 3) := by decide +kernel
theorem dX4_reserveFault_73 : decode cX4_reserveFault 73 = .ok (.if_icmp .le 5, 3) := by decide +kernel
theorem dX4_reserveFault_76 : decode cX4_reserveFault 76 = .ok (.iconst 2, 1) := by decide +kernel
theorem dX4_reserveFault_77 : decode cX4_reserveFault 77 = .ok (.ireturn, 1) := by decide +kernel
theorem dX4_reserveFault_78 : decode cX4_reserveFault 78 = .ok (.aload_n 0, 1) := by decide +kernel
theorem dX4_reserveFault_79 : decode cX4_reserveFault 79 = .ok (.iload_n 1, 1) := by decide +kernel
theorem dX4_reserveFault_80 : decode cX4_reserveFault 80 = .ok (.invokevirtual 103, 3) := by decide +kernel
theorem dX4_reserveFault_83 : decode cX4_reserveFault 83 = .ok (.ifCond .ne 7, 3) := by decide +kernel
theorem dX4_reserveFault_86 : decode cX4_reserveFault 86 = .ok (.iconst 3, 1) := by decide +kernel
theorem dX4_reserveFault_87 : decode cX4_reserveFault 87 = .ok (.goto 23, 3) := by decide +kernel
theorem dX4_reserveFault_90 : decode cX4_reserveFault 90 = .ok (.aload_n 0, 1) := by decide +kernel
theorem dX4_reserveFault_91 : decode cX4_reserveFault 91 = .ok (.getfield 113, 3) := by decide +kernel
theorem dX4_reserveFault_94 : decode cX4_reserveFault 94 = .ok (.bipush 8, 2) := by decide +kernel
theorem dX4_reserveFault_96 : decode cX4_reserveFault 96 = .ok (.if_icmp .ne 13, 3) := by decide +kernel
theorem dX4_reserveFault_99 : decode cX4_reserveFault 99 = .ok (.iload 5, 2) := by decide +kernel
theorem dX4_reserveFault_101 : decode cX4_reserveFault 101 = .ok (.iconst (-1), 1) := by decide +kernel
theorem dX4_reserveFault_102 : decode cX4_reserveFault 102 = .ok (.if_icmp .ne 7, 3) := by decide +kernel
theorem dX4_reserveFault_105 : decode cX4_reserveFault 105 = .ok (.iconst 4, 1) := by decide +kernel
theorem dX4_reserveFault_106 : decode cX4_reserveFault 106 = .ok (.goto 4, 3) := by decide +kernel
theorem dX4_reserveFault_109 : decode cX4_reserveFault 109 = .ok (.iconst 0, 1) := by decide +kernel
theorem dX4_reserveFault_110 : decode cX4_reserveFault 110 = .ok (.ireturn, 1) := by decide +kernel
theorem dX4_reserve_0 : decode cX4_reserve 0 = .ok (.aload_n 0, 1) := by decide +kernel
theorem dX4_reserve_1 : decode cX4_reserve 1 = .ok (.aload_n 0, 1) := by decide +kernel
theorem dX4_reserve_2 : decode cX4_reserve 2 = .ok (.iload_n 1, 1) := by decide +kernel
theorem dX4_reserve_3 : decode cX4_reserve 3 = .ok (.iload_n 2, 1) := by decide +kernel
theorem dX4_reserve_4 : decode cX4_reserve 4 = .ok (.iload_n 3, 1) := by decide +kernel
theorem dX4_reserve_5 : decode cX4_reserve 5 = .ok (.iload 4, 2) := by decide +kernel
theorem dX4_reserve_7 : decode cX4_reserve 7 = .ok (.invokevirtual 215, 3) := by decide +kernel
theorem dX4_reserve_10 : decode cX4_reserve 10 = .ok (.invokevirtual 184, 3) := by decide +kernel
theorem dX4_reserve_13 : decode cX4_reserve 13 = .ok (.ifCond .ne 5, 3) := by decide +kernel
theorem dX4_reserve_16 : decode cX4_reserve 16 = .ok (.iconst 0, 1) := by decide +kernel
theorem dX4_reserve_17 : decode cX4_reserve 17 = .ok (.ireturn, 1) := by decide +kernel
theorem dX4_reserve_18 : decode cX4_reserve 18 = .ok (.aload_n 0, 1) := by decide +kernel
theorem dX4_reserve_19 : decode cX4_reserve 19 = .ok (.iload_n 1, 1) := by decide +kernel
theorem dX4_reserve_20 : decode cX4_reserve 20 = .ok (.iload_n 3, 1) := by decide +kernel
theorem dX4_reserve_21 : decode cX4_reserve 21 = .ok (.iload 4, 2) := by decide +kernel
theorem dX4_reserve_23 : decode cX4_reserve 23 = .ok (.invokevirtual 211, 3) := by decide +kernel
theorem dX4_reserve_26 : decode cX4_reserve 26 = .ok (.istore 5, 2) := by decide +kernel
theorem dX4_reserve_28 : decode cX4_reserve 28 = .ok (.iload 5, 2) := by decide +kernel
theorem dX4_reserve_30 : decode cX4_reserve 30 = .ok (.iconst (-1), 1) := by decide +kernel
theorem dX4_reserve_31 : decode cX4_reserve 31 = .ok (.if_icmp .ne 52, 3) := by decide +kernel
theorem dX4_reserve_34 : decode cX4_reserve 34 = .ok (.aload_n 0, 1) := by decide +kernel
theorem dX4_reserve_35 : decode cX4_reserve 35 = .ok (.getfield 113, 3) := by decide +kernel
theorem dX4_reserve_38 : decode cX4_reserve 38 = .ok (.istore 5, 2) := by decide +kernel
theorem dX4_reserve_40 : decode cX4_reserve 40 = .ok (.aload_n 0, 1) := by decide +kernel
theorem dX4_reserve_41 : decode cX4_reserve 41 = .ok (.getfield 64, 3) := by decide +kernel
theorem dX4_reserve_44 : decode cX4_reserve 44 = .ok (.iload 5, 2) := by decide +kernel
theorem dX4_reserve_46 : decode cX4_reserve 46 = .ok (.iload_n 1, 1) := by decide +kernel
theorem dX4_reserve_47 : decode cX4_reserve 47 = .ok (.iastore, 1) := by decide +kernel
theorem dX4_reserve_48 : decode cX4_reserve 48 = .ok (.aload_n 0, 1) := by decide +kernel
theorem dX4_reserve_49 : decode cX4_reserve 49 = .ok (.getfield 67, 3) := by decide +kernel
theorem dX4_reserve_52 : decode cX4_reserve 52 = .ok (.iload 5, 2) := by decide +kernel
theorem dX4_reserve_54 : decode cX4_reserve 54 = .ok (.iconst 0, 1) := by decide +kernel
theorem dX4_reserve_55 : decode cX4_reserve 55 = .ok (.iastore, 1) := by decide +kernel
theorem dX4_reserve_56 : decode cX4_reserve 56 = .ok (.aload_n 0, 1) := by decide +kernel
theorem dX4_reserve_57 : decode cX4_reserve 57 = .ok (.getfield 70, 3) := by decide +kernel
theorem dX4_reserve_60 : decode cX4_reserve 60 = .ok (.iload 5, 2) := by decide +kernel
theorem dX4_reserve_62 : decode cX4_reserve 62 = .ok (.iload_n 3, 1) := by decide +kernel
theorem dX4_reserve_63 : decode cX4_reserve 63 = .ok (.iastore, 1) := by decide +kernel
theorem dX4_reserve_64 : decode cX4_reserve 64 = .ok (.aload_n 0, 1) := by decide +kernel
theorem dX4_reserve_65 : decode cX4_reserve 65 = .ok (.getfield 73, 3) := by decide +kernel
theorem dX4_reserve_68 : decode cX4_reserve 68 = .ok (.iload 5, 2) := by decide +kernel
theorem dX4_reserve_70 : decode cX4_reserve 70 = .ok (.iload 4, 2) := by decide +kernel
theorem dX4_reserve_72 : decode cX4_reserve 72 = .ok (.iastore, 1) := by decide +kernel
theorem dX4_reserve_73 : decode cX4_reserve 73 = .ok (.aload_n 0, 1) := by decide +kernel
theorem dX4_reserve_74 : decode cX4_reserve 74 = .ok (.dup, 1) := by decide +kernel
theorem dX4_reserve_75 : decode cX4_reserve 75 = .ok (.getfield 113, 3) := by decide +kernel
theorem dX4_reserve_78 : decode cX4_reserve 78 = .ok (.iconst 1, 1) := by decide +kernel
theorem dX4_reserve_79 : decode cX4_reserve 79 = .ok (.iadd, 1) := by decide +kernel
theorem dX4_reserve_80 : decode cX4_reserve 80 = .ok (.putfield 113, 3) := by decide +kernel
theorem dX4_reserve_83 : decode cX4_reserve 83 = .ok (.aload_n 0, 1) := by decide +kernel
theorem dX4_reserve_84 : decode cX4_reserve 84 = .ok (.getfield 67, 3) := by decide +kernel
theorem dX4_reserve_87 : decode cX4_reserve 87 = .ok (.iload 5, 2) := by decide +kernel
theorem dX4_reserve_89 : decode cX4_reserve 89 = .ok (.dup2, 1) := by decide +kernel
theorem dX4_reserve_90 : decode cX4_reserve 90 = .ok (.iaload, 1) := by decide +kernel
theorem dX4_reserve_91 : decode cX4_reserve 91 = .ok (.iload_n 2, 1) := by decide +kernel
theorem dX4_reserve_92 : decode cX4_reserve 92 = .ok (.iadd, 1) := by decide +kernel
theorem dX4_reserve_93 : decode cX4_reserve 93 = .ok (.iastore, 1) := by decide +kernel
theorem dX4_reserve_94 : decode cX4_reserve 94 = .ok (.aload_n 0, 1) := by decide +kernel
theorem dX4_reserve_95 : decode cX4_reserve 95 = .ok (.getfield 33, 3) := by decide +kernel
theorem dX4_reserve_98 : decode cX4_reserve 98 = .ok (.iload_n 1, 1) := by decide +kernel
theorem dX4_reserve_99 : decode cX4_reserve 99 = .ok (.iconst 1, 1) := by decide +kernel
theorem dX4_reserve_100 : decode cX4_reserve 100 = .ok (.bastore, 1) := by decide +kernel
theorem dX4_reserve_101 : decode cX4_reserve 101 = .ok (.aload_n 0, 1) := by decide +kernel
theorem dX4_reserve_102 : decode cX4_reserve 102 = .ok (.getfield 67, 3) := by decide +kernel
theorem dX4_reserve_105 : decode cX4_reserve 105 = .ok (.iload 5, 2) := by decide +kernel
theorem dX4_reserve_107 : decode cX4_reserve 107 = .ok (.iaload, 1) := by decide +kernel
theorem dX4_reserve_108 : decode cX4_reserve 108 = .ok (.istore 6, 2) := by decide +kernel
theorem dX4_reserve_110 : decode cX4_reserve 110 = .ok (.aload_n 0, 1) := by decide +kernel
theorem dX4_reserve_111 : decode cX4_reserve 111 = .ok (.invokevirtual 187, 3) := by decide +kernel
theorem dX4_reserve_114 : decode cX4_reserve 114 = .ok (.iload 6, 2) := by decide +kernel
theorem dX4_reserve_116 : decode cX4_reserve 116 = .ok (.ireturn, 1) := by decide +kernel
theorem dX4_drop_0 : decode cX4_drop 0 = .ok (.aload_n 0, 1) := by decide +kernel
theorem dX4_drop_1 : decode cX4_drop 1 = .ok (.iload_n 1, 1) := by decide +kernel
theorem dX4_drop_2 : decode cX4_drop 2 = .ok (.iload_n 2, 1) := by decide +kernel
theorem dX4_drop_3 : decode cX4_drop 3 = .ok (.iload_n 3, 1) := by decide +kernel
theorem dX4_drop_4 : decode cX4_drop 4 = .ok (.invokevirtual 211, 3) := by decide +kernel
theorem dX4_drop_7 : decode cX4_drop 7 = .ok (.istore 4, 2) := by decide +kernel
theorem dX4_drop_9 : decode cX4_drop 9 = .ok (.aload_n 0, 1) := by decide +kernel
theorem dX4_drop_10 : decode cX4_drop 10 = .ok (.iload 4, 2) := by decide +kernel
theorem dX4_drop_12 : decode cX4_drop 12 = .ok (.iconst (-1), 1) := by decide +kernel
theorem dX4_drop_13 : decode cX4_drop 13 = .ok (.if_icmp .ne 7, 3) := by decide +kernel
theorem dX4_drop_16 : decode cX4_drop 16 = .ok (.iconst 1, 1) := by decide +kernel
theorem dX4_drop_17 : decode cX4_drop 17 = .ok (.goto 4, 3) := by decide +kernel
theorem dX4_drop_20 : decode cX4_drop 20 = .ok (.iconst 0, 1) := by decide +kernel
theorem dX4_drop_21 : decode cX4_drop 21 = .ok (.invokevirtual 184, 3) := by decide +kernel
theorem dX4_drop_24 : decode cX4_drop 24 = .ok (.ifCond .ne 5, 3) := by decide +kernel
theorem dX4_drop_27 : decode cX4_drop 27 = .ok (.iconst 0, 1) := by decide +kernel
theorem dX4_drop_28 : decode cX4_drop 28 = .ok (.ireturn, 1) := by decide +kernel
theorem dX4_drop_29 : decode cX4_drop 29 = .ok (.aload_n 0, 1) := by decide +kernel
theorem dX4_drop_30 : decode cX4_drop 30 = .ok (.getfield 67, 3) := by decide +kernel
theorem dX4_drop_33 : decode cX4_drop 33 = .ok (.iload 4, 2) := by decide +kernel
theorem dX4_drop_35 : decode cX4_drop 35 = .ok (.iaload, 1) := by decide +kernel
theorem dX4_drop_36 : decode cX4_drop 36 = .ok (.istore 5, 2) := by decide +kernel
theorem dX4_drop_38 : decode cX4_drop 38 = .ok (.aload_n 0, 1) := by decide +kernel
theorem dX4_drop_39 : decode cX4_drop 39 = .ok (.dup, 1) := by decide +kernel
theorem dX4_drop_40 : decode cX4_drop 40 = .ok (.getfield 113, 3) := by decide +kernel
theorem dX4_drop_43 : decode cX4_drop 43 = .ok (.iconst 1, 1) := by decide +kernel
theorem dX4_drop_44 : decode cX4_drop 44 = .ok (.isub, 1) := by decide +kernel
theorem dX4_drop_45 : decode cX4_drop 45 = .ok (.putfield 113, 3) := by decide +kernel
theorem dX4_drop_48 : decode cX4_drop 48 = .ok (.iload 4, 2) := by decide +kernel
theorem dX4_drop_50 : decode cX4_drop 50 = .ok (.istore 6, 2) := by decide +kernel
theorem dX4_drop_52 : decode cX4_drop 52 = .ok (.iload 6, 2) := by decide +kernel
theorem dX4_drop_54 : decode cX4_drop 54 = .ok (.aload_n 0, 1) := by decide +kernel
theorem dX4_drop_55 : decode cX4_drop 55 = .ok (.getfield 113, 3) := by decide +kernel
theorem dX4_drop_58 : decode cX4_drop 58 = .ok (.if_icmp .ge 73, 3) := by decide +kernel
theorem dX4_drop_61 : decode cX4_drop 61 = .ok (.aload_n 0, 1) := by decide +kernel
theorem dX4_drop_62 : decode cX4_drop 62 = .ok (.getfield 64, 3) := by decide +kernel
theorem dX4_drop_65 : decode cX4_drop 65 = .ok (.iload 6, 2) := by decide +kernel
theorem dX4_drop_67 : decode cX4_drop 67 = .ok (.aload_n 0, 1) := by decide +kernel
theorem dX4_drop_68 : decode cX4_drop 68 = .ok (.getfield 64, 3) := by decide +kernel
theorem dX4_drop_71 : decode cX4_drop 71 = .ok (.iload 6, 2) := by decide +kernel
theorem dX4_drop_73 : decode cX4_drop 73 = .ok (.iconst 1, 1) := by decide +kernel
theorem dX4_drop_74 : decode cX4_drop 74 = .ok (.iadd, 1) := by decide +kernel
theorem dX4_drop_75 : decode cX4_drop 75 = .ok (.iaload, 1) := by decide +kernel
theorem dX4_drop_76 : decode cX4_drop 76 = .ok (.iastore, 1) := by decide +kernel
theorem dX4_drop_77 : decode cX4_drop 77 = .ok (.aload_n 0, 1) := by decide +kernel
theorem dX4_drop_78 : decode cX4_drop 78 = .ok (.getfield 67, 3) := by decide +kernel
theorem dX4_drop_81 : decode cX4_drop 81 = .ok (.iload 6, 2) := by decide +kernel
theorem dX4_drop_83 : decode cX4_drop 83 = .ok (.aload_n 0, 1) := by decide +kernel
theorem dX4_drop_84 : decode cX4_drop 84 = .ok (.getfield 67, 3) := by decide +kernel
theorem dX4_drop_87 : decode cX4_drop 87 = .ok (.iload 6, 2) := by decide +kernel
theorem dX4_drop_89 : decode cX4_drop 89 = .ok (.iconst 1, 1) := by decide +kernel
theorem dX4_drop_90 : decode cX4_drop 90 = .ok (.iadd, 1) := by decide +kernel
theorem dX4_drop_91 : decode cX4_drop 91 = .ok (.iaload, 1) := by decide +kernel
theorem dX4_drop_92 : decode cX4_drop 92 = .ok (.iastore, 1) := by decide +kernel
theorem dX4_drop_93 : decode cX4_drop 93 = .ok (.aload_n 0, 1) := by decide +kernel
theorem dX4_drop_94 : decode cX4_drop 94 = .ok (.getfield 70, 3) := by decide +kernel
theorem dX4_drop_97 : decode cX4_drop 97 = .ok (.iload 6, 2) := by decide +kernel
theorem dX4_drop_99 : decode cX4_drop 99 = .ok (.aload_n 0, 1) := by decide +kernel
theorem dX4_drop_100 : decode cX4_drop 100 = .ok (.getfield 70, 3) := by decide +kernel
theorem dX4_drop_103 : decode cX4_drop 103 = .ok (.iload 6, 2) := by decide +kernel
theorem dX4_drop_105 : decode cX4_drop 105 = .ok (.iconst 1, 1) := by decide +kernel
theorem dX4_drop_106 : decode cX4_drop 106 = .ok (.iadd, 1) := by decide +kernel
theorem dX4_drop_107 : decode cX4_drop 107 = .ok (.iaload, 1) := by decide +kernel
theorem dX4_drop_108 : decode cX4_drop 108 = .ok (.iastore, 1) := by decide +kernel
theorem dX4_drop_109 : decode cX4_drop 109 = .ok (.aload_n 0, 1) := by decide +kernel
theorem dX4_drop_110 : decode cX4_drop 110 = .ok (.getfield 73, 3) := by decide +kernel
theorem dX4_drop_113 : decode cX4_drop 113 = .ok (.iload 6, 2) := by decide +kernel
theorem dX4_drop_115 : decode cX4_drop 115 = .ok (.aload_n 0, 1) := by decide +kernel
theorem dX4_drop_116 : decode cX4_drop 116 = .ok (.getfield 73, 3) := by decide +kernel
theorem dX4_drop_119 : decode cX4_drop 119 = .ok (.iload 6, 2) := by decide +kernel
theorem dX4_drop_121 : decode cX4_drop 121 = .ok (.iconst 1, 1) := by decide +kernel
theorem dX4_drop_122 : decode cX4_drop 122 = .ok (.iadd, 1) := by decide +kernel
theorem dX4_drop_123 : decode cX4_drop 123 = .ok (.iaload, 1) := by decide +kernel
theorem dX4_drop_124 : decode cX4_drop 124 = .ok (.iastore, 1) := by decide +kernel
theorem dX4_drop_125 : decode cX4_drop 125 = .ok (.iinc 6 1, 3) := by decide +kernel
theorem dX4_drop_128 : decode cX4_drop 128 = .ok (.goto (-76), 3) := by decide +kernel
theorem dX4_drop_131 : decode cX4_drop 131 = .ok (.aload_n 0, 1) := by decide +kernel
theorem dX4_drop_132 : decode cX4_drop 132 = .ok (.invokevirtual 187, 3) := by decide +kernel
theorem dX4_drop_135 : decode cX4_drop 135 = .ok (.iload 5, 2) := by decide +kernel
theorem dX4_drop_137 : decode cX4_drop 137 = .ok (.ireturn, 1) := by decide +kernel
theorem dX4_reserved_0 : decode cX4_reserved 0 = .ok (.aload_n 0, 1) := by decide +kernel
theorem dX4_reserved_1 : decode cX4_reserved 1 = .ok (.aload_n 0, 1) := by decide +kernel
theorem dX4_reserved_2 : decode cX4_reserved 2 = .ok (.iload_n 1, 1) := by decide +kernel
theorem dX4_reserved_3 : decode cX4_reserved 3 = .ok (.invokevirtual 208, 3) := by decide +kernel
theorem dX4_reserved_6 : decode cX4_reserved 6 = .ok (.invokevirtual 184, 3) := by decide +kernel
theorem dX4_reserved_9 : decode cX4_reserved 9 = .ok (.ifCond .eq 11, 3) := by decide +kernel
theorem dX4_reserved_12 : decode cX4_reserved 12 = .ok (.aload_n 0, 1) := by decide +kernel
theorem dX4_reserved_13 : decode cX4_reserved 13 = .ok (.iload_n 1, 1) := by decide +kernel
theorem dX4_reserved_14 : decode cX4_reserved 14 = .ok (.invokevirtual 119, 3) := by decide +kernel
theorem dX4_reserved_17 : decode cX4_reserved 17 = .ok (.goto 4, 3) := by decide +kernel
theorem dX4_reserved_20 : decode cX4_reserved 20 = .ok (.iconst 0, 1) := by decide +kernel
theorem dX4_reserved_21 : decode cX4_reserved 21 = .ok (.ireturn, 1) := by decide +kernel
theorem dX4_running_0 : decode cX4_running 0 = .ok (.aload_n 0, 1) := by decide +kernel
theorem dX4_running_1 : decode cX4_running 1 = .ok (.aload_n 0, 1) := by decide +kernel
theorem dX4_running_2 : decode cX4_running 2 = .ok (.iload_n 1, 1) := by decide +kernel
theorem dX4_running_3 : decode cX4_running 3 = .ok (.invokevirtual 99, 3) := by decide +kernel
theorem dX4_running_6 : decode cX4_running 6 = .ok (.ifCond .eq 7, 3) := by decide +kernel
theorem dX4_running_9 : decode cX4_running 9 = .ok (.iconst 0, 1) := by decide +kernel
theorem dX4_running_10 : decode cX4_running 10 = .ok (.goto 4, 3) := by decide +kernel
theorem dX4_running_13 : decode cX4_running 13 = .ok (.iconst 1, 1) := by decide +kernel
theorem dX4_running_14 : decode cX4_running 14 = .ok (.invokevirtual 184, 3) := by decide +kernel
theorem dX4_running_17 : decode cX4_running 17 = .ok (.ifCond .eq 12, 3) := by decide +kernel
theorem dX4_running_20 : decode cX4_running 20 = .ok (.aload_n 0, 1) := by decide +kernel
theorem dX4_running_21 : decode cX4_running 21 = .ok (.getfield 37, 3) := by decide +kernel
theorem dX4_running_24 : decode cX4_running 24 = .ok (.iload_n 1, 1) := by decide +kernel
theorem dX4_running_25 : decode cX4_running 25 = .ok (.iaload, 1) := by decide +kernel
theorem dX4_running_26 : decode cX4_running 26 = .ok (.goto 4, 3) := by decide +kernel
theorem dX4_running_29 : decode cX4_running 29 = .ok (.iconst 0, 1) := by decide +kernel
theorem dX4_running_30 : decode cX4_running 30 = .ok (.ireturn, 1) := by decide +kernel
theorem dX4_demand_0 : decode cX4_demand 0 = .ok (.aload_n 0, 1) := by decide +kernel
theorem dX4_demand_1 : decode cX4_demand 1 = .ok (.aload_n 0, 1) := by decide +kernel
theorem dX4_demand_2 : decode cX4_demand 2 = .ok (.iload_n 1, 1) := by decide +kernel
theorem dX4_demand_3 : decode cX4_demand 3 = .ok (.invokevirtual 99, 3) := by decide +kernel
theorem dX4_demand_6 : decode cX4_demand 6 = .ok (.ifCond .eq 7, 3) := by decide +kernel
theorem dX4_demand_9 : decode cX4_demand 9 = .ok (.iconst 0, 1) := by decide +kernel
theorem dX4_demand_10 : decode cX4_demand 10 = .ok (.goto 4, 3) := by decide +kernel
theorem dX4_demand_13 : decode cX4_demand 13 = .ok (.iconst 1, 1) := by decide +kernel
theorem dX4_demand_14 : decode cX4_demand 14 = .ok (.invokevirtual 184, 3) := by decide +kernel
theorem dX4_demand_17 : decode cX4_demand 17 = .ok (.ifCond .eq 11, 3) := by decide +kernel
theorem dX4_demand_20 : decode cX4_demand 20 = .ok (.aload_n 0, 1) := by decide +kernel
theorem dX4_demand_21 : decode cX4_demand 21 = .ok (.iload_n 1, 1) := by decide +kernel
theorem dX4_demand_22 : decode cX4_demand 22 = .ok (.invokevirtual 106, 3) := by decide +kernel
theorem dX4_demand_25 : decode cX4_demand 25 = .ok (.goto 4, 3) := by decide +kernel
theorem dX4_demand_28 : decode cX4_demand 28 = .ok (.iconst 0, 1) := by decide +kernel
theorem dX4_demand_29 : decode cX4_demand 29 = .ok (.ireturn, 1) := by decide +kernel
theorem dX4_share_0 : decode cX4_share 0 = .ok (.aload_n 0, 1) := by decide +kernel
theorem dX4_share_1 : decode cX4_share 1 = .ok (.invokevirtual 177, 3) := by decide +kernel
theorem dX4_share_4 : decode cX4_share 4 = .ok (.aload_n 0, 1) := by decide +kernel
theorem dX4_share_5 : decode cX4_share 5 = .ok (.aload_n 0, 1) := by decide +kernel
theorem dX4_share_6 : decode cX4_share 6 = .ok (.iload_n 1, 1) := by decide +kernel
theorem dX4_share_7 : decode cX4_share 7 = .ok (.invokevirtual 99, 3) := by decide +kernel
theorem dX4_share_10 : decode cX4_share 10 = .ok (.ifCond .eq 7, 3) := by decide +kernel
theorem dX4_share_13 : decode cX4_share 13 = .ok (.iconst 0, 1) := by decide +kernel
theorem dX4_share_14 : decode cX4_share 14 = .ok (.goto 4, 3) := by decide +kernel
theorem dX4_share_17 : decode cX4_share 17 = .ok (.iconst 1, 1) := by decide +kernel
theorem dX4_share_18 : decode cX4_share 18 = .ok (.invokevirtual 184, 3) := by decide +kernel
theorem dX4_share_21 : decode cX4_share 21 = .ok (.ifCond .eq 12, 3) := by decide +kernel
theorem dX4_share_24 : decode cX4_share 24 = .ok (.aload_n 0, 1) := by decide +kernel
theorem dX4_share_25 : decode cX4_share 25 = .ok (.getfield 79, 3) := by decide +kernel
theorem dX4_share_28 : decode cX4_share 28 = .ok (.iload_n 1, 1) := by decide +kernel
theorem dX4_share_29 : decode cX4_share 29 = .ok (.iaload, 1) := by decide +kernel
theorem dX4_share_30 : decode cX4_share 30 = .ok (.goto 4, 3) := by decide +kernel
theorem dX4_share_33 : decode cX4_share 33 = .ok (.iconst 0, 1) := by decide +kernel
theorem dX4_share_34 : decode cX4_share 34 = .ok (.ireturn, 1) := by decide +kernel
theorem dX4_shareByLevels_0 : decode cX4_shareByLevels 0 = .ok (.aload_n 0, 1) := by decide +kernel
theorem dX4_shareByLevels_1 : decode cX4_shareByLevels 1 = .ok (.iload_n 1, 1) := by decide +kernel
theorem dX4_shareByLevels_2 : decode cX4_shareByLevels 2 = .ok (.invokevirtual 219, 3) := by decide +kernel
theorem dX4_shareByLevels_5 : decode cX4_shareByLevels 5 = .ok (.ireturn, 1) := by decide +kernel
theorem dX4_due_0 : decode cX4_due 0 = .ok (.aload_n 0, 1) := by decide +kernel
theorem dX4_due_1 : decode cX4_due 1 = .ok (.invokevirtual 177, 3) := by decide +kernel
theorem dX4_due_4 : decode cX4_due 4 = .ok (.aload_n 0, 1) := by decide +kernel
theorem dX4_due_5 : decode cX4_due 5 = .ok (.aload_n 0, 1) := by decide +kernel
theorem dX4_due_6 : decode cX4_due 6 = .ok (.iload_n 1, 1) := by decide +kernel
theorem dX4_due_7 : decode cX4_due 7 = .ok (.invokevirtual 208, 3) := by decide +kernel
theorem dX4_due_10 : decode cX4_due 10 = .ok (.invokevirtual 184, 3) := by decide +kernel
theorem dX4_due_13 : decode cX4_due 13 = .ok (.ifCond .eq 11, 3) := by decide +kernel
theorem dX4_due_16 : decode cX4_due 16 = .ok (.aload_n 0, 1) := by decide +kernel
theorem dX4_due_17 : decode cX4_due 17 = .ok (.iload_n 1, 1) := by decide +kernel
theorem dX4_due_18 : decode cX4_due 18 = .ok (.invokevirtual 148, 3) := by decide +kernel
theorem dX4_due_21 : decode cX4_due 21 = .ok (.goto 4, 3) := by decide +kernel
theorem dX4_due_24 : decode cX4_due 24 = .ok (.iconst 0, 1) := by decide +kernel
theorem dX4_due_25 : decode cX4_due 25 = .ok (.ireturn, 1) := by decide +kernel
theorem dX4_freeFor_0 : decode cX4_freeFor 0 = .ok (.aload_n 0, 1) := by decide +kernel
theorem dX4_freeFor_1 : decode cX4_freeFor 1 = .ok (.aload_n 0, 1) := by decide +kernel
theorem dX4_freeFor_2 : decode cX4_freeFor 2 = .ok (.iload_n 1, 1) := by decide +kernel
theorem dX4_freeFor_3 : decode cX4_freeFor 3 = .ok (.invokevirtual 208, 3) := by decide +kernel
theorem dX4_freeFor_6 : decode cX4_freeFor 6 = .ok (.invokevirtual 184, 3) := by decide +kernel
theorem dX4_freeFor_9 : decode cX4_freeFor 9 = .ok (.ifCond .eq 11, 3) := by decide +kernel
theorem dX4_freeFor_12 : decode cX4_freeFor 12 = .ok (.aload_n 0, 1) := by decide +kernel
theorem dX4_freeFor_13 : decode cX4_freeFor 13 = .ok (.iload_n 1, 1) := by decide +kernel
theorem dX4_freeFor_14 : decode cX4_freeFor 14 = .ok (.invokevirtual 145, 3) := by decide +kernel
theorem dX4_freeFor_17 : decode cX4_freeFor 17 = .ok (.goto 4, 3) := by decide +kernel
theorem dX4_freeFor_20 : decode cX4_freeFor 20 = .ok (.iconst 0, 1) := by decide +kernel
theorem dX4_freeFor_21 : decode cX4_freeFor 21 = .ok (.ireturn, 1) := by decide +kernel
theorem dX4_use_0 : decode cX4_use 0 = .ok (.aload_n 0, 1) := by decide +kernel
theorem dX4_use_1 : decode cX4_use 1 = .ok (.aload_n 0, 1) := by decide +kernel
theorem dX4_use_2 : decode cX4_use 2 = .ok (.iload_n 1, 1) := by decide +kernel
theorem dX4_use_3 : decode cX4_use 3 = .ok (.invokevirtual 208, 3) := by decide +kernel
theorem dX4_use_6 : decode cX4_use 6 = .ok (.invokevirtual 184, 3) := by decide +kernel
theorem dX4_use_9 : decode cX4_use 9 = .ok (.ifCond .eq 12, 3) := by decide +kernel
theorem dX4_use_12 : decode cX4_use 12 = .ok (.aload_n 0, 1) := by decide +kernel
theorem dX4_use_13 : decode cX4_use 13 = .ok (.getfield 29, 3) := by decide +kernel
theorem dX4_use_16 : decode cX4_use 16 = .ok (.iload_n 1, 1) := by decide +kernel
theorem dX4_use_17 : decode cX4_use 17 = .ok (.laload, 1) := by decide +kernel
theorem dX4_use_18 : decode cX4_use 18 = .ok (.goto 4, 3) := by decide +kernel
theorem dX4_use_21 : decode cX4_use 21 = .ok (.lconst 0, 1) := by decide +kernel
theorem dX4_use_22 : decode cX4_use 22 = .ok (.lreturn, 1) := by decide +kernel
theorem dX4_usedShare_0 : decode cX4_usedShare 0 = .ok (.aload_n 0, 1) := by decide +kernel
theorem dX4_usedShare_1 : decode cX4_usedShare 1 = .ok (.aload_n 0, 1) := by decide +kernel
theorem dX4_usedShare_2 : decode cX4_usedShare 2 = .ok (.getfield 7, 3) := by decide +kernel
theorem dX4_usedShare_5 : decode cX4_usedShare 5 = .ok (.ifCond .ne 7, 3) := by decide +kernel
theorem dX4_usedShare_8 : decode cX4_usedShare 8 = .ok (.iconst 1, 1) := by decide +kernel
theorem dX4_usedShare_9 : decode cX4_usedShare 9 = .ok (.goto 4, 3) := by decide +kernel
theorem dX4_usedShare_12 : decode cX4_usedShare 12 = .ok (.iconst 0, 1) := by decide +kernel
theorem dX4_usedShare_13 : decode cX4_usedShare 13 = .ok (.invokevirtual 184, 3) := by decide +kernel
theorem dX4_usedShare_16 : decode cX4_usedShare 16 = .ok (.ifCond .eq 19, 3) := by decide +kernel
theorem dX4_usedShare_19 : decode cX4_usedShare 19 = .ok (.aload_n 0, 1) := by decide +kernel
theorem dX4_usedShare_20 : decode cX4_usedShare 20 = .ok (.getfield 37, 3) := by decide +kernel
theorem dX4_usedShare_23 : decode cX4_usedShare 23 = .ok (.iconst 0, 1) := by decide +kernel
theorem dX4_usedShare_24 : decode cX4_usedShare 24 = .ok (.iaload, 1) := by decide +kernel
theorem dX4_usedShare_25 : decode cX4_usedShare 25 = .ok (.i2f, 1) := by decide +kernel
theorem dX4_usedShare_26 : decode cX4_usedShare 26 = .ok (.aload_n 0, 1) := by decide +kernel
theorem dX4_usedShare_27 : decode cX4_usedShare 27 = .ok (.getfield 7, 3) := by decide +kernel
theorem dX4_usedShare_30 : decode cX4_usedShare 30 = .ok (.i2f, 1) := by decide +kernel
theorem dX4_usedShare_31 : decode cX4_usedShare 31 = .ok (.fdiv, 1) := by decide +kernel
theorem dX4_usedShare_32 : decode cX4_usedShare 32 = .ok (.goto 4, 3) := by decide +kernel
theorem dX4_usedShare_35 : decode cX4_usedShare 35 = .ok (.fconst 0, 1) := by decide +kernel
theorem dX4_usedShare_36 : decode cX4_usedShare 36 = .ok (.freturn, 1) := by decide +kernel
theorem dX4_meanStops_0 : decode cX4_meanStops 0 = .ok (.iconst 0, 1) := by decide +kernel
theorem dX4_meanStops_1 : decode cX4_meanStops 1 = .ok (.istore_n 1, 1) := by decide +kernel
theorem dX4_meanStops_2 : decode cX4_meanStops 2 = .ok (.iconst 0, 1) := by decide +kernel
theorem dX4_meanStops_3 : decode cX4_meanStops 3 = .ok (.istore_n 2, 1) := by decide +kernel
theorem dX4_meanStops_4 : decode cX4_meanStops 4 = .ok (.iconst 0, 1) := by decide +kernel
theorem dX4_meanStops_5 : decode cX4_meanStops 5 = .ok (.istore_n 3, 1) := by decide +kernel
theorem dX4_meanStops_6 : decode cX4_meanStops 6 = .ok (.iload_n 3, 1) := by decide +kernel
theorem dX4_meanStops_7 : decode cX4_meanStops 7 = .ok (.aload_n 0, 1) := by decide +kernel
theorem dX4_meanStops_8 : decode cX4_meanStops 8 = .ok (.getfield 122, 3) := by decide +kernel
theorem dX4_meanStops_11 : decode cX4_meanStops 11 = .ok (.if_icmp .ge 50, 3) := by decide +kernel
theorem dX4_meanStops_14 : decode cX4_meanStops 14 = .ok (.iload_n 1, 1) := by decide +kernel
theorem dX4_meanStops_15 : decode cX4_meanStops 15 = .ok (.aload_n 0, 1) := by decide +kernel
theorem dX4_meanStops_16 : decode cX4_meanStops 16 = .ok (.getfield 55, 3) := by decide +kernel
theorem dX4_meanStops_19 : decode cX4_meanStops 19 = .ok (.iload_n 3, 1) := by decide +kernel
theorem dX4_meanStops_20 : decode cX4_meanStops 20 = .ok (.iaload, 1) := by decide +kernel
theorem dX4_meanStops_21 : decode cX4_meanStops 21 = .ok (.iconst 2, 1) := by decide +kernel
theorem dX4_meanStops_22 : decode cX4_meanStops 22 = .ok (.if_icmp .ne 12, 3) := by decide +kernel
theorem dX4_meanStops_25 : decode cX4_meanStops 25 = .ok (.aload_n 0, 1) := by decide +kernel
theorem dX4_meanStops_26 : decode cX4_meanStops 26 = .ok (.getfield 58, 3) := by decide +kernel
theorem dX4_meanStops_29 : decode cX4_meanStops 29 = .ok (.iload_n 3, 1) := by decide +kernel
theorem dX4_meanStops_30 : decode cX4_meanStops 30 = .ok (.iaload, 1) := by decide +kernel
theorem dX4_meanStops_31 : decode cX4_meanStops 31 = .ok (.goto 4, 3) := by decide +kernel
theorem dX4_meanStops_34 : decode cX4_meanStops 34 = .ok (.iconst 0, 1) := by decide +kernel
theorem dX4_meanStops_35 : decode cX4_meanStops 35 = .ok (.iadd, 1) := by decide +kernel
theorem dX4_meanStops_36 : decode cX4_meanStops 36 = .ok (.istore_n 1, 1) := by decide +kernel
theorem dX4_meanStops_37 : decode cX4_meanStops 37 = .ok (.iload_n 2, 1) := by decide +kernel
theorem dX4_meanStops_38 : decode cX4_meanStops 38 = .ok (.aload_n 0, 1) := by decide +kernel
theorem dX4_meanStops_39 : decode cX4_meanStops 39 = .ok (.getfield 55, 3) := by decide +kernel
theorem dX4_meanStops_42 : decode cX4_meanStops 42 = .ok (.iload_n 3, 1) := by decide +kernel
theorem dX4_meanStops_43 : decode cX4_meanStops 43 = .ok (.iaload, 1) := by decide +kernel
theorem dX4_meanStops_44 : decode cX4_meanStops 44 = .ok (.iconst 2, 1) := by decide +kernel
theorem dX4_meanStops_45 : decode cX4_meanStops 45 = .ok (.if_icmp .ne 7, 3) := by decide +kernel
theorem dX4_meanStops_48 : decode cX4_meanStops 48 = .ok (.iconst 1, 1) := by decide +kernel
theorem dX4_meanStops_49 : decode cX4_meanStops 49 = .ok (.goto 4, 3) := by decide +kernel
theorem dX4_meanStops_52 : decode cX4_meanStops 52 = .ok (.iconst 0, 1) := by decide +kernel
theorem dX4_meanStops_53 : decode cX4_meanStops 53 = .ok (.iadd, 1) := by decide +kernel
theorem dX4_meanStops_54 : decode cX4_meanStops 54 = .ok (.istore_n 2, 1) := by decide +kernel
theorem dX4_meanStops_55 : decode cX4_meanStops 55 = .ok (.iinc 3 1, 3) := by decide +kernel
theorem dX4_meanStops_58 : decode cX4_meanStops 58 = .ok (.goto (-52), 3) := by decide +kernel
theorem dX4_meanStops_61 : decode cX4_meanStops 61 = .ok (.aload_n 0, 1) := by decide +kernel
theorem dX4_meanStops_62 : decode cX4_meanStops 62 = .ok (.iload_n 2, 1) := by decide +kernel
theorem dX4_meanStops_63 : decode cX4_meanStops 63 = .ok (.ifCond .ne 7, 3) := by decide +kernel
theorem dX4_meanStops_66 : decode cX4_meanStops 66 = .ok (.iconst 1, 1) := by decide +kernel
theorem dX4_meanStops_67 : decode cX4_meanStops 67 = .ok (.goto 4, 3) := by decide +kernel
theorem dX4_meanStops_70 : decode cX4_meanStops 70 = .ok (.iconst 0, 1) := by decide +kernel
theorem dX4_meanStops_71 : decode cX4_meanStops 71 = .ok (.invokevirtual 184, 3) := by decide +kernel
theorem dX4_meanStops_74 : decode cX4_meanStops 74 = .ok (.ifCond .eq 11, 3) := by decide +kernel
theorem dX4_meanStops_77 : decode cX4_meanStops 77 = .ok (.iload_n 1, 1) := by decide +kernel
theorem dX4_meanStops_78 : decode cX4_meanStops 78 = .ok (.i2d, 1) := by decide +kernel
theorem dX4_meanStops_79 : decode cX4_meanStops 79 = .ok (.iload_n 2, 1) := by decide +kernel
theorem dX4_meanStops_80 : decode cX4_meanStops 80 = .ok (.i2d, 1) := by decide +kernel
theorem dX4_meanStops_81 : decode cX4_meanStops 81 = .ok (.ddiv, 1) := by decide +kernel
theorem dX4_meanStops_82 : decode cX4_meanStops 82 = .ok (.goto 4, 3) := by decide +kernel
theorem dX4_meanStops_85 : decode cX4_meanStops 85 = .ok (.dconst 0, 1) := by decide +kernel
theorem dX4_meanStops_86 : decode cX4_meanStops 86 = .ok (.dreturn, 1) := by decide +kernel
theorem dX4_sharesBelow_0 : decode cX4_sharesBelow 0 = .ok (.iconst 0, 1) := by decide +kernel
theorem dX4_sharesBelow_1 : decode cX4_sharesBelow 1 = .ok (.istore_n 2, 1) := by decide +kernel
theorem dX4_sharesBelow_2 : decode cX4_sharesBelow 2 = .ok (.iconst 1, 1) := by decide +kernel
theorem dX4_sharesBelow_3 : decode cX4_sharesBelow 3 = .ok (.istore_n 3, 1) := by decide +kernel
theorem dX4_sharesBelow_4 : decode cX4_sharesBelow 4 = .ok (.iload_n 3, 1) := by decide +kernel
theorem dX4_sharesBelow_5 : decode cX4_sharesBelow 5 = .ok (.aload_n 0, 1) := by decide +kernel
theorem dX4_sharesBelow_6 : decode cX4_sharesBelow 6 = .ok (.getfield 16, 3) := by decide +kernel
theorem dX4_sharesBelow_9 : decode cX4_sharesBelow 9 = .ok (.if_icmp .ge 32, 3) := by decide +kernel
theorem dX4_sharesBelow_12 : decode cX4_sharesBelow 12 = .ok (.iload_n 2, 1) := by decide +kernel
theorem dX4_sharesBelow_13 : decode cX4_sharesBelow 13 = .ok (.aload_n 0, 1) := by decide +kernel
theorem dX4_sharesBelow_14 : decode cX4_sharesBelow 14 = .ok (.getfield 19, 3) := by decide +kernel
theorem dX4_sharesBelow_17 : decode cX4_sharesBelow 17 = .ok (.iload_n 3, 1) := by decide +kernel
theorem dX4_sharesBelow_18 : decode cX4_sharesBelow 18 = .ok (.iaload, 1) := by decide +kernel
theorem dX4_sharesBelow_19 : decode cX4_sharesBelow 19 = .ok (.iload_n 1, 1) := by decide +kernel
theorem dX4_sharesBelow_20 : decode cX4_sharesBelow 20 = .ok (.if_icmp .ne 12, 3) := by decide +kernel
theorem dX4_sharesBelow_23 : decode cX4_sharesBelow 23 = .ok (.aload_n 0, 1) := by decide +kernel
theorem dX4_sharesBelow_24 : decode cX4_sharesBelow 24 = .ok (.getfield 79, 3) := by decide +kernel
theorem dX4_sharesBelow_27 : decode cX4_sharesBelow 27 = .ok (.iload_n 3, 1) := by decide +kernel
theorem dX4_sharesBelow_28 : decode cX4_sharesBelow 28 = .ok (.iaload, 1) := by decide +kernel
theorem dX4_sharesBelow_29 : decode cX4_sharesBelow 29 = .ok (.goto 4, 3) := by decide +kernel
theorem dX4_sharesBelow_32 : decode cX4_sharesBelow 32 = .ok (.iconst 0, 1) := by decide +kernel
theorem dX4_sharesBelow_33 : decode cX4_sharesBelow 33 = .ok (.iadd, 1) := by decide +kernel
theorem dX4_sharesBelow_34 : decode cX4_sharesBelow 34 = .ok (.istore_n 2, 1) := by decide +kernel
theorem dX4_sharesBelow_35 : decode cX4_sharesBelow 35 = .ok (.iinc 3 1, 3) := by decide +kernel
theorem dX4_sharesBelow_38 : decode cX4_sharesBelow 38 = .ok (.goto (-34), 3) := by decide +kernel
theorem dX4_sharesBelow_41 : decode cX4_sharesBelow 41 = .ok (.iload_n 2, 1) := by decide +kernel
theorem dX4_sharesBelow_42 : decode cX4_sharesBelow 42 = .ok (.ireturn, 1) := by decide +kernel
theorem dX4_isFair_0 : decode cX4_isFair 0 = .ok (.aload_n 0, 1) := by decide +kernel
theorem dX4_isFair_1 : decode cX4_isFair 1 = .ok (.iconst 0, 1) := by decide +kernel
theorem dX4_isFair_2 : decode cX4_isFair 2 = .ok (.putfield 88, 3) := by decide +kernel
theorem dX4_isFair_5 : decode cX4_isFair 5 = .ok (.aload_n 0, 1) := by decide +kernel
theorem dX4_isFair_6 : decode cX4_isFair 6 = .ok (.iconst 0, 1) := by decide +kernel
theorem dX4_isFair_7 : decode cX4_isFair 7 = .ok (.putfield 151, 3) := by decide +kernel
theorem dX4_isFair_10 : decode cX4_isFair 10 = .ok (.aload_n 0, 1) := by decide +kernel
theorem dX4_isFair_11 : decode cX4_isFair 11 = .ok (.invokevirtual 177, 3) := by decide +kernel
theorem dX4_isFair_14 : decode cX4_isFair 14 = .ok (.aload_n 0, 1) := by decide +kernel
theorem dX4_isFair_15 : decode cX4_isFair 15 = .ok (.invokevirtual 166, 3) := by decide +kernel
theorem dX4_isFair_18 : decode cX4_isFair 18 = .ok (.aload_n 0, 1) := by decide +kernel
theorem dX4_isFair_19 : decode cX4_isFair 19 = .ok (.getfield 37, 3) := by decide +kernel
theorem dX4_isFair_22 : decode cX4_isFair 22 = .ok (.iconst 0, 1) := by decide +kernel
theorem dX4_isFair_23 : decode cX4_isFair 23 = .ok (.iaload, 1) := by decide +kernel
theorem dX4_isFair_24 : decode cX4_isFair 24 = .ok (.aload_n 0, 1) := by decide +kernel
theorem dX4_isFair_25 : decode cX4_isFair 25 = .ok (.getfield 7, 3) := by decide +kernel
theorem dX4_isFair_28 : decode cX4_isFair 28 = .ok (.if_icmp .gt 7, 3) := by decide +kernel
theorem dX4_isFair_31 : decode cX4_isFair 31 = .ok (.iconst 1, 1) := by decide +kernel
theorem dX4_isFair_32 : decode cX4_isFair 32 = .ok (.goto 4, 3) := by decide +kernel
theorem dX4_isFair_35 : decode cX4_isFair 35 = .ok (.iconst 0, 1) := by decide +kernel
theorem dX4_isFair_36 : decode cX4_isFair 36 = .ok (.istore_n 1, 1) := by decide +kernel
theorem dX4_isFair_37 : decode cX4_isFair 37 = .ok (.iconst 0, 1) := by decide +kernel
theorem dX4_isFair_38 : decode cX4_isFair 38 = .ok (.istore_n 2, 1) := by decide +kernel
theorem dX4_isFair_39 : decode cX4_isFair 39 = .ok (.iload_n 2, 1) := by decide +kernel
theorem dX4_isFair_40 : decode cX4_isFair 40 = .ok (.aload_n 0, 1) := by decide +kernel
theorem dX4_isFair_41 : decode cX4_isFair 41 = .ok (.getfield 125, 3) := by decide +kernel
theorem dX4_isFair_44 : decode cX4_isFair 44 = .ok (.if_icmp .ge 62, 3) := by decide +kernel
theorem dX4_isFair_47 : decode cX4_isFair 47 = .ok (.aload_n 0, 1) := by decide +kernel
theorem dX4_isFair_48 : decode cX4_isFair 48 = .ok (.aload_n 0, 1) := by decide +kernel
theorem dX4_isFair_49 : decode cX4_isFair 49 = .ok (.getfield 82, 3) := by decide +kernel
theorem dX4_isFair_52 : decode cX4_isFair 52 = .ok (.iload_n 2, 1) := by decide +kernel
theorem dX4_isFair_53 : decode cX4_isFair 53 = .ok (.iaload, 1) := by decide +kernel
theorem dX4_isFair_54 : decode cX4_isFair 54 = .ok (.invokevirtual 128, 3) := by decide +kernel
theorem dX4_isFair_57 : decode cX4_isFair 57 = .ok (.istore_n 3, 1) := by decide +kernel
theorem dX4_isFair_58 : decode cX4_isFair 58 = .ok (.aload_n 0, 1) := by decide +kernel
theorem dX4_isFair_59 : decode cX4_isFair 59 = .ok (.iload_n 3, 1) := by decide +kernel
theorem dX4_isFair_60 : decode cX4_isFair 60 = .ok (.invokevirtual 169, 3) := by decide +kernel
theorem dX4_isFair_63 : decode cX4_isFair 63 = .ok (.ifCond .ne 11, 3) := by decide +kernel
theorem dX4_isFair_66 : decode cX4_isFair 66 = .ok (.aload_n 0, 1) := by decide +kernel
theorem dX4_isFair_67 : decode cX4_isFair 67 = .ok (.iload_n 3, 1) := by decide +kernel
theorem dX4_isFair_68 : decode cX4_isFair 68 = .ok (.invokevirtual 172, 3) := by decide +kernel
theorem dX4_isFair_71 : decode cX4_isFair 71 = .ok (.ifCond .eq 7, 3) := by decide +kernel
theorem dX4_isFair_74 : decode cX4_isFair 74 = .ok (.iconst 1, 1) := by decide +kernel
theorem dX4_isFair_75 : decode cX4_isFair 75 = .ok (.goto 4, 3) := by decide +kernel
theorem dX4_isFair_78 : decode cX4_isFair 78 = .ok (.iconst 0, 1) := by decide +kernel
theorem dX4_isFair_79 : decode cX4_isFair 79 = .ok (.istore 4, 2) := by decide +kernel
theorem dX4_isFair_81 : decode cX4_isFair 81 = .ok (.aload_n 0, 1) := by decide +kernel
theorem dX4_isFair_82 : decode cX4_isFair 82 = .ok (.invokevirtual 157, 3) := by decide +kernel
theorem dX4_isFair_85 : decode cX4_isFair 85 = .ok (.iload_n 1, 1) := by decide +kernel
theorem dX4_isFair_86 : decode cX4_isFair 86 = .ok (.ifCond .eq 12, 3) := by decide +kernel
theorem dX4_isFair_89 : decode cX4_isFair 89 = .ok (.iload 4, 2) := by decide +kernel
theorem dX4_isFair_91 : decode cX4_isFair 91 = .ok (.ifCond .ne 7, 3) := by decide +kernel
theorem dX4_isFair_94 : decode cX4_isFair 94 = .ok (.iconst 1, 1) := by decide +kernel
theorem dX4_isFair_95 : decode cX4_isFair 95 = .ok (.goto 4, 3) := by decide +kernel
theorem dX4_isFair_98 : decode cX4_isFair 98 = .ok (.iconst 0, 1) := by decide +kernel
theorem dX4_isFair_99 : decode cX4_isFair 99 = .ok (.istore_n 1, 1) := by decide +kernel
theorem dX4_isFair_100 : decode cX4_isFair 100 = .ok (.iinc 2 1, 3) := by decide +kernel
theorem dX4_isFair_103 : decode cX4_isFair 103 = .ok (.goto (-64), 3) := by decide +kernel
theorem dX4_isFair_106 : decode cX4_isFair 106 = .ok (.iconst 0, 1) := by decide +kernel
theorem dX4_isFair_107 : decode cX4_isFair 107 = .ok (.istore_n 2, 1) := by decide +kernel
theorem dX4_isFair_108 : decode cX4_isFair 108 = .ok (.iload_n 2, 1) := by decide +kernel
theorem dX4_isFair_109 : decode cX4_isFair 109 = .ok (.aload_n 0, 1) := by decide +kernel
theorem dX4_isFair_110 : decode cX4_isFair 110 = .ok (.getfield 16, 3) := by decide +kernel
theorem dX4_isFair_113 : decode cX4_isFair 113 = .ok (.if_icmp .ge 33, 3) := by decide +kernel
theorem dX4_isFair_116 : decode cX4_isFair 116 = .ok (.iload_n 1, 1) := by decide +kernel
theorem dX4_isFair_117 : decode cX4_isFair 117 = .ok (.ifCond .eq 21, 3) := by decide +kernel
theorem dX4_isFair_120 : decode cX4_isFair 120 = .ok (.aload_n 0, 1) := by decide +kernel
theorem dX4_isFair_121 : decode cX4_isFair 121 = .ok (.iload_n 2, 1) := by decide +kernel
theorem dX4_isFair_122 : decode cX4_isFair 122 = .ok (.invokevirtual 222, 3) := by decide +kernel
theorem dX4_isFair_125 : decode cX4_isFair 125 = .ok (.aload_n 0, 1) := by decide +kernel
theorem dX4_isFair_126 : decode cX4_isFair 126 = .ok (.getfield 79, 3) := by decide +kernel
theorem dX4_isFair_129 : decode cX4_isFair 129 = .ok (.iload_n 2, 1) := by decide +kernel
theorem dX4_isFair_130 : decode cX4_isFair 130 = .ok (.iaload, 1) := by decide +kernel
theorem dX4_isFair_131 : decode cX4_isFair 131 = .ok (.if_icmp .gt 7, 3) := by decide +kernel
theorem dX4_isFair_134 : decode cX4_isFair 134 = .ok (.iconst 1, 1) := by decide +kernel
theorem dX4_isFair_135 : decode cX4_isFair 135 = .ok (.goto 4, 3) := by decide +kernel
theorem dX4_isFair_138 : decode cX4_isFair 138 = .ok (.iconst 0, 1) := by decide +kernel
theorem dX4_isFair_139 : decode cX4_isFair 139 = .ok (.istore_n 1, 1) := by decide +kernel
theorem dX4_isFair_140 : decode cX4_isFair 140 = .ok (.iinc 2 1, 3) := by decide +kernel
theorem dX4_isFair_143 : decode cX4_isFair 143 = .ok (.goto (-35), 3) := by decide +kernel
theorem dX4_isFair_146 : decode cX4_isFair 146 = .ok (.iload_n 1, 1) := by decide +kernel
theorem dX4_isFair_147 : decode cX4_isFair 147 = .ok (.ireturn, 1) := by decide +kernel
theorem dJ9_max_7cf53_0 : decode cJ9_max_7cf53 0 = .ok (.iload_n 0, 1) := by decide +kernel
theorem dJ9_max_7cf53_1 : decode cJ9_max_7cf53 1 = .ok (.iload_n 1, 1) := by decide +kernel
theorem dJ9_max_7cf53_2 : decode cJ9_max_7cf53 2 = .ok (.if_icmp .lt 7, 3) := by decide +kernel
theorem dJ9_max_7cf53_5 : decode cJ9_max_7cf53 5 = .ok (.iload_n 0, 1) := by decide +kernel
theorem dJ9_max_7cf53_6 : decode cJ9_max_7cf53 6 = .ok (.goto 4, 3) := by decide +kernel
theorem dJ9_max_7cf53_9 : decode cJ9_max_7cf53 9 = .ok (.iload_n 1, 1) := by decide +kernel
theorem dJ9_max_7cf53_10 : decode cJ9_max_7cf53 10 = .ok (.ireturn, 1) := by decide +kernel
theorem dJ9_min_7cf53_0 : decode cJ9_min_7cf53 0 = .ok (.iload_n 0, 1) := by decide +kernel
theorem dJ9_min_7cf53_1 : decode cJ9_min_7cf53 1 = .ok (.iload_n 1, 1) := by decide +kernel
theorem dJ9_min_7cf53_2 : decode cJ9_min_7cf53 2 = .ok (.if_icmp .gt 7, 3) := by decide +kernel
theorem dJ9_min_7cf53_5 : decode cJ9_min_7cf53 5 = .ok (.iload_n 0, 1) := by decide +kernel
theorem dJ9_min_7cf53_6 : decode cJ9_min_7cf53 6 = .ok (.goto 4, 3) := by decide +kernel
theorem dJ9_min_7cf53_9 : decode cJ9_min_7cf53 9 = .ok (.iload_n 1, 1) := by decide +kernel
theorem dJ9_min_7cf53_10 : decode cJ9_min_7cf53 10 = .ok (.ireturn, 1) := by decide +kernel
theorem dJxa1e45_init_da8c8_0 : decode cJxa1e45_init_da8c8 0 = .ok (.aload_n 0, 1) := by decide +kernel
theorem dJxa1e45_init_da8c8_1 : decode cJxa1e45_init_da8c8 1 = .ok (.invokespecial 1, 3) := by decide +kernel
theorem dJxa1e45_init_da8c8_4 : decode cJxa1e45_init_da8c8 4 = .ok (.return_, 1) := by decide +kernel
theorem dJxc12de_init_da8c8_0 : decode cJxc12de_init_da8c8 0 = .ok (.aload_n 0, 1) := by decide +kernel
theorem dJxc12de_init_da8c8_1 : decode cJxc12de_init_da8c8 1 = .ok (.invokespecial 1, 3) := by decide +kernel
theorem dJxc12de_init_da8c8_4 : decode cJxc12de_init_da8c8 4 = .ok (.aload_n 0, 1) := by decide +kernel
theorem dJxc12de_init_da8c8_5 : decode cJxc12de_init_da8c8 5 = .ok (.iconst 0, 1) := by decide +kernel
theorem dJxc12de_init_da8c8_6 : decode cJxc12de_init_da8c8 6 = .ok (.putfield 7, 3) := by decide +kernel
theorem dJxc12de_init_da8c8_9 : decode cJxc12de_init_da8c8 9 = .ok (.return_, 1) := by decide +kernel
theorem dJx4a65c_init_da8c8_0 : decode cJx4a65c_init_da8c8 0 = .ok (.aload_n 0, 1) := by decide +kernel
theorem dJx4a65c_init_da8c8_1 : decode cJx4a65c_init_da8c8 1 = .ok (.invokespecial 1, 3) := by decide +kernel
theorem dJx4a65c_init_da8c8_4 : decode cJx4a65c_init_da8c8 4 = .ok (.aload_n 0, 1) := by decide +kernel
theorem dJx4a65c_init_da8c8_5 : decode cJx4a65c_init_da8c8 5 = .ok (.getstatic 39, 3) := by decide +kernel
theorem dJx4a65c_init_da8c8_8 : decode cJx4a65c_init_da8c8 8 = .ok (.putfield 9, 3) := by decide +kernel
theorem dJx4a65c_init_da8c8_11 : decode cJx4a65c_init_da8c8 11 = .ok (.return_, 1) := by decide +kernel
theorem dJx4a65c_grow_92f84_0 : decode cJx4a65c_grow_92f84 0 = .ok (.aload_n 0, 1) := by decide +kernel
theorem dJx4a65c_grow_92f84_1 : decode cJx4a65c_grow_92f84 1 = .ok (.getfield 9, 3) := by decide +kernel
theorem dJx4a65c_grow_92f84_4 : decode cJx4a65c_grow_92f84 4 = .ok (.arraylength, 1) := by decide +kernel
theorem dJx4a65c_grow_92f84_5 : decode cJx4a65c_grow_92f84 5 = .ok (.istore_n 2, 1) := by decide +kernel
theorem dJx4a65c_grow_92f84_6 : decode cJx4a65c_grow_92f84 6 = .ok (.iload_n 2, 1) := by decide +kernel
theorem dJx4a65c_grow_92f84_7 : decode cJx4a65c_grow_92f84 7 = .ok (.ifCond .gt 13, 3) := by decide +kernel
theorem dJx4a65c_grow_92f84_10 : decode cJx4a65c_grow_92f84 10 = .ok (.aload_n 0, 1) := by decide +kernel
theorem dJx4a65c_grow_92f84_11 : decode cJx4a65c_grow_92f84 11 = .ok (.getfield 9, 3) := by decide +kernel
theorem dJx4a65c_grow_92f84_14 : decode cJx4a65c_grow_92f84 14 = .ok (.getstatic 39, 3) := by decide +kernel
theorem dJx4a65c_grow_92f84_17 : decode cJx4a65c_grow_92f84 17 = .ok (.if_acmp .eq 28, 3) := by decide +kernel
theorem dJx4a65c_grow_92f84_20 : decode cJx4a65c_grow_92f84 20 = .ok (.iload_n 2, 1) := by decide +kernel
theorem dJx4a65c_grow_92f84_21 : decode cJx4a65c_grow_92f84 21 = .ok (.iload_n 1, 1) := by decide +kernel
theorem dJx4a65c_grow_92f84_22 : decode cJx4a65c_grow_92f84 22 = .ok (.iload_n 2, 1) := by decide +kernel
theorem dJx4a65c_grow_92f84_23 : decode cJx4a65c_grow_92f84 23 = .ok (.isub, 1) := by decide +kernel
theorem dJx4a65c_grow_92f84_24 : decode cJx4a65c_grow_92f84 24 = .ok (.iload_n 2, 1) := by decide +kernel
theorem dJx4a65c_grow_92f84_25 : decode cJx4a65c_grow_92f84 25 = .ok (.iconst 1, 1) := by decide +kernel
theorem dJx4a65c_grow_92f84_26 : decode cJx4a65c_grow_92f84 26 = .ok (.ishr, 1) := by decide +kernel
theorem dJx4a65c_grow_92f84_27 : decode cJx4a65c_grow_92f84 27 = .ok (.invokestatic 73, 3) := by decide +kernel
theorem dJx4a65c_grow_92f84_30 : decode cJx4a65c_grow_92f84 30 = .ok (.istore_n 3, 1) := by decide +kernel
theorem dJx4a65c_grow_92f84_31 : decode cJx4a65c_grow_92f84 31 = .ok (.aload_n 0, 1) := by decide +kernel
theorem dJx4a65c_grow_92f84_32 : decode cJx4a65c_grow_92f84 32 = .ok (.aload_n 0, 1) := by decide +kernel
theorem dJx4a65c_grow_92f84_33 : decode cJx4a65c_grow_92f84 33 = .ok (.getfield 9, 3) := by decide +kernel
theorem dJx4a65c_grow_92f84_36 : decode cJx4a65c_grow_92f84 36 = .ok (.iload_n 3, 1) := by decide +kernel
theorem dJx4a65c_grow_92f84_37 : decode cJx4a65c_grow_92f84 37 = .ok (.invokestatic 66, 3) := by decide +kernel
theorem dJx4a65c_grow_92f84_40 : decode cJx4a65c_grow_92f84 40 = .ok (.dup_x1, 1) := by decide +kernel
theorem dJx4a65c_grow_92f84_41 : decode cJx4a65c_grow_92f84 41 = .ok (.putfield 9, 3) := by decide +kernel
theorem dJx4a65c_grow_92f84_44 : decode cJx4a65c_grow_92f84 44 = .ok (.areturn, 1) := by decide +kernel
theorem dJx4a65c_grow_92f84_45 : decode cJx4a65c_grow_92f84 45 = .ok (.aload_n 0, 1) := by decide +kernel
theorem dJx4a65c_grow_92f84_46 : decode cJx4a65c_grow_92f84 46 = .ok (.bipush 10, 2) := by decide +kernel
theorem dJx4a65c_grow_92f84_48 : decode cJx4a65c_grow_92f84 48 = .ok (.iload_n 1, 1) := by decide +kernel
theorem dJx4a65c_grow_92f84_49 : decode cJx4a65c_grow_92f84 49 = .ok (.invokestatic 79, 3) := by decide +kernel
theorem dJx4a65c_grow_92f84_52 : decode cJx4a65c_grow_92f84 52 = .ok (.anewarray 7, 3) := by decide +kernel
theorem dJx4a65c_grow_92f84_55 : decode cJx4a65c_grow_92f84 55 = .ok (.dup_x1, 1) := by decide +kernel
theorem dJx4a65c_grow_92f84_56 : decode cJx4a65c_grow_92f84 56 = .ok (.putfield 9, 3) := by decide +kernel
theorem dJx4a65c_grow_92f84_59 : decode cJx4a65c_grow_92f84 59 = .ok (.areturn, 1) := by decide +kernel
theorem dJx4a65c_grow_d5877_0 : decode cJx4a65c_grow_d5877 0 = .ok (.aload_n 0, 1) := by decide +kernel
theorem dJx4a65c_grow_d5877_1 : decode cJx4a65c_grow_d5877 1 = .ok (.aload_n 0, 1) := by decide +kernel
theorem dJx4a65c_grow_d5877_2 : decode cJx4a65c_grow_d5877 2 = .ok (.getfield 48, 3) := by decide +kernel
theorem dJx4a65c_grow_d5877_5 : decode cJx4a65c_grow_d5877 5 = .ok (.iconst 1, 1) := by decide +kernel
theorem dJx4a65c_grow_d5877_6 : decode cJx4a65c_grow_d5877 6 = .ok (.iadd, 1) := by decide +kernel
theorem dJx4a65c_grow_d5877_7 : decode cJx4a65c_grow_d5877 7 = .ok (.invokevirtual 69, 3) := by decide +kernel
theorem dJx4a65c_grow_d5877_10 : decode cJx4a65c_grow_d5877 10 = .ok (.areturn, 1) := by decide +kernel
theorem dJx4a65c_size_8abf5_0 : decode cJx4a65c_size_8abf5 0 = .ok (.aload_n 0, 1) := by decide +kernel
theorem dJx4a65c_size_8abf5_1 : decode cJx4a65c_size_8abf5 1 = .ok (.getfield 48, 3) := by decide +kernel
theorem dJx4a65c_size_8abf5_4 : decode cJx4a65c_size_8abf5 4 = .ok (.ireturn, 1) := by decide +kernel
theorem dJx4a65c_isEmpty_aae02_0 : decode cJx4a65c_isEmpty_aae02 0 = .ok (.aload_n 0, 1) := by decide +kernel
theorem dJx4a65c_isEmpty_aae02_1 : decode cJx4a65c_isEmpty_aae02 1 = .ok (.getfield 48, 3) := by decide +kernel
theorem dJx4a65c_isEmpty_aae02_4 : decode cJx4a65c_isEmpty_aae02 4 = .ok (.ifCond .ne 7, 3) := by decide +kernel
theorem dJx4a65c_isEmpty_aae02_7 : decode cJx4a65c_isEmpty_aae02 7 = .ok (.iconst 1, 1) := by decide +kernel
theorem dJx4a65c_isEmpty_aae02_8 : decode cJx4a65c_isEmpty_aae02 8 = .ok (.goto 4, 3) := by decide +kernel
theorem dJx4a65c_isEmpty_aae02_11 : decode cJx4a65c_isEmpty_aae02 11 = .ok (.iconst 0, 1) := by decide +kernel
theorem dJx4a65c_isEmpty_aae02_12 : decode cJx4a65c_isEmpty_aae02 12 = .ok (.ireturn, 1) := by decide +kernel
theorem dJx4a65c_elementData_915e3_0 : decode cJx4a65c_elementData_915e3 0 = .ok (.aload_n 0, 1) := by decide +kernel
theorem dJx4a65c_elementData_915e3_1 : decode cJx4a65c_elementData_915e3 1 = .ok (.getfield 9, 3) := by decide +kernel
theorem dJx4a65c_elementData_915e3_4 : decode cJx4a65c_elementData_915e3 4 = .ok (.iload_n 1, 1) := by decide +kernel
theorem dJx4a65c_elementData_915e3_5 : decode cJx4a65c_elementData_915e3 5 = .ok (.aaload, 1) := by decide +kernel
theorem dJx4a65c_elementData_915e3_6 : decode cJx4a65c_elementData_915e3 6 = .ok (.areturn, 1) := by decide +kernel
theorem dJx4a65c_get_915e3_0 : decode cJx4a65c_get_915e3 0 = .ok (.iload_n 1, 1) := by decide +kernel
theorem dJx4a65c_get_915e3_1 : decode cJx4a65c_get_915e3 1 = .ok (.aload_n 0, 1) := by decide +kernel
theorem dJx4a65c_get_915e3_2 : decode cJx4a65c_get_915e3 2 = .ok (.getfield 48, 3) := by decide +kernel
theorem dJx4a65c_get_915e3_5 : decode cJx4a65c_get_915e3 5 = .ok (.invokestatic 118, 3) := by decide +kernel
theorem dJx4a65c_get_915e3_8 : decode cJx4a65c_get_915e3 8 = .ok (.pop, 1) := by decide +kernel
theorem dJx4a65c_get_915e3_9 : decode cJx4a65c_get_915e3 9 = .ok (.aload_n 0, 1) := by decide +kernel
theorem dJx4a65c_get_915e3_10 : decode cJx4a65c_get_915e3 10 = .ok (.iload_n 1, 1) := by decide +kernel
theorem dJx4a65c_get_915e3_11 : decode cJx4a65c_get_915e3 11 = .ok (.invokevirtual 123, 3) := by decide +kernel
theorem dJx4a65c_get_915e3_14 : decode cJx4a65c_get_915e3 14 = .ok (.areturn, 1) := by decide +kernel
theorem dJx4a65c_add_72be8_0 : decode cJx4a65c_add_72be8 0 = .ok (.iload_n 3, 1) := by decide +kernel
theorem dJx4a65c_add_72be8_1 : decode cJx4a65c_add_72be8 1 = .ok (.aload_n 2, 1) := by decide +kernel
theorem dJx4a65c_add_72be8_2 : decode cJx4a65c_add_72be8 2 = .ok (.arraylength, 1) := by decide +kernel
theorem dJx4a65c_add_72be8_3 : decode cJx4a65c_add_72be8 3 = .ok (.if_icmp .ne 8, 3) := by decide +kernel
theorem dJx4a65c_add_72be8_6 : decode cJx4a65c_add_72be8 6 = .ok (.aload_n 0, 1) := by decide +kernel
theorem dJx4a65c_add_72be8_7 : decode cJx4a65c_add_72be8 7 = .ok (.invokevirtual 129, 3) := by decide +kernel
theorem dJx4a65c_add_72be8_10 : decode cJx4a65c_add_72be8 10 = .ok (.astore_n 2, 1) := by decide +kernel
theorem dJx4a65c_add_72be8_11 : decode cJx4a65c_add_72be8 11 = .ok (.aload_n 2, 1) := by decide +kernel
theorem dJx4a65c_add_72be8_12 : decode cJx4a65c_add_72be8 12 = .ok (.iload_n 3, 1) := by decide +kernel
theorem dJx4a65c_add_72be8_13 : decode cJx4a65c_add_72be8 13 = .ok (.aload_n 1, 1) := by decide +kernel
theorem dJx4a65c_add_72be8_14 : decode cJx4a65c_add_72be8 14 = .ok (.aastore, 1) := by decide +kernel
theorem dJx4a65c_add_72be8_15 : decode cJx4a65c_add_72be8 15 = .ok (.aload_n 0, 1) := by decide +kernel
theorem dJx4a65c_add_72be8_16 : decode cJx4a65c_add_72be8 16 = .ok (.iload_n 3, 1) := by decide +kernel
theorem dJx4a65c_add_72be8_17 : decode cJx4a65c_add_72be8 17 = .ok (.iconst 1, 1) := by decide +kernel
theorem dJx4a65c_add_72be8_18 : decode cJx4a65c_add_72be8 18 = .ok (.iadd, 1) := by decide +kernel
theorem dJx4a65c_add_72be8_19 : decode cJx4a65c_add_72be8 19 = .ok (.putfield 48, 3) := by decide +kernel
theorem dJx4a65c_add_72be8_22 : decode cJx4a65c_add_72be8 22 = .ok (.return_, 1) := by decide +kernel
theorem dJx4a65c_add_9ea2d_0 : decode cJx4a65c_add_9ea2d 0 = .ok (.aload_n 0, 1) := by decide +kernel
theorem dJx4a65c_add_9ea2d_1 : decode cJx4a65c_add_9ea2d 1 = .ok (.dup, 1) := by decide +kernel
theorem dJx4a65c_add_9ea2d_2 : decode cJx4a65c_add_9ea2d 2 = .ok (.getfield 63, 3) := by decide +kernel
theorem dJx4a65c_add_9ea2d_5 : decode cJx4a65c_add_9ea2d 5 = .ok (.iconst 1, 1) := by decide +kernel
theorem dJx4a65c_add_9ea2d_6 : decode cJx4a65c_add_9ea2d 6 = .ok (.iadd, 1) := by decide +kernel
theorem dJx4a65c_add_9ea2d_7 : decode cJx4a65c_add_9ea2d 7 = .ok (.putfield 63, 3) := by decide +kernel
theorem dJx4a65c_add_9ea2d_10 : decode cJx4a65c_add_9ea2d 10 = .ok (.aload_n 0, 1) := by decide +kernel
theorem dJx4a65c_add_9ea2d_11 : decode cJx4a65c_add_9ea2d 11 = .ok (.aload_n 1, 1) := by decide +kernel
theorem dJx4a65c_add_9ea2d_12 : decode cJx4a65c_add_9ea2d 12 = .ok (.aload_n 0, 1) := by decide +kernel
theorem dJx4a65c_add_9ea2d_13 : decode cJx4a65c_add_9ea2d 13 = .ok (.getfield 9, 3) := by decide +kernel
theorem dJx4a65c_add_9ea2d_16 : decode cJx4a65c_add_9ea2d 16 = .ok (.aload_n 0, 1) := by decide +kernel
theorem dJx4a65c_add_9ea2d_17 : decode cJx4a65c_add_9ea2d 17 = .ok (.getfield 48, 3) := by decide +kernel
theorem dJx4a65c_add_9ea2d_20 : decode cJx4a65c_add_9ea2d 20 = .ok (.invokevirtual 131, 3) := by decide +kernel
theorem dJx4a65c_add_9ea2d_23 : decode cJx4a65c_add_9ea2d 23 = .ok (.iconst 1, 1) := by decide +kernel
theorem dJx4a65c_add_9ea2d_24 : decode cJx4a65c_add_9ea2d 24 = .ok (.ireturn, 1) := by decide +kernel
theorem dJx4a65c_add_7a177_0 : decode cJx4a65c_add_7a177 0 = .ok (.aload_n 0, 1) := by decide +kernel
theorem dJx4a65c_add_7a177_1 : decode cJx4a65c_add_7a177 1 = .ok (.iload_n 1, 1) := by decide +kernel
theorem dJx4a65c_add_7a177_2 : decode cJx4a65c_add_7a177 2 = .ok (.invokevirtual 135, 3) := by decide +kernel
theorem dJx4a65c_add_7a177_5 : decode cJx4a65c_add_7a177 5 = .ok (.aload_n 0, 1) := by decide +kernel
theorem dJx4a65c_add_7a177_6 : decode cJx4a65c_add_7a177 6 = .ok (.dup, 1) := by decide +kernel
theorem dJx4a65c_add_7a177_7 : decode cJx4a65c_add_7a177 7 = .ok (.getfield 63, 3) := by decide +kernel
theorem dJx4a65c_add_7a177_10 : decode cJx4a65c_add_7a177 10 = .ok (.iconst 1, 1) := by decide +kernel
theorem dJx4a65c_add_7a177_11 : decode cJx4a65c_add_7a177 11 = .ok (.iadd, 1) := by decide +kernel
theorem dJx4a65c_add_7a177_12 : decode cJx4a65c_add_7a177 12 = .ok (.putfield 63, 3) := by decide +kernel
theorem dJx4a65c_add_7a177_15 : decode cJx4a65c_add_7a177 15 = .ok (.aload_n 0, 1) := by decide +kernel
theorem dJx4a65c_add_7a177_16 : decode cJx4a65c_add_7a177 16 = .ok (.getfield 48, 3) := by decide +kernel
theorem dJx4a65c_add_7a177_19 : decode cJx4a65c_add_7a177 19 = .ok (.dup, 1) := by decide +kernel
theorem dJx4a65c_add_7a177_20 : decode cJx4a65c_add_7a177 20 = .ok (.istore_n 3, 1) := by decide +kernel
theorem dJx4a65c_add_7a177_21 : decode cJx4a65c_add_7a177 21 = .ok (.aload_n 0, 1) := by decide +kernel
theorem dJx4a65c_add_7a177_22 : decode cJx4a65c_add_7a177 22 = .ok (.getfield 9, 3) := by decide +kernel
theorem dJx4a65c_add_7a177_25 : decode cJx4a65c_add_7a177 25 = .ok (.dup, 1) := by decide +kernel
theorem dJx4a65c_add_7a177_26 : decode cJx4a65c_add_7a177 26 = .ok (.astore 4, 2) := by decide +kernel
theorem dJx4a65c_add_7a177_28 : decode cJx4a65c_add_7a177 28 = .ok (.arraylength, 1) := by decide +kernel
theorem dJx4a65c_add_7a177_29 : decode cJx4a65c_add_7a177 29 = .ok (.if_icmp .ne 9, 3) := by decide +kernel
theorem dJx4a65c_add_7a177_32 : decode cJx4a65c_add_7a177 32 = .ok (.aload_n 0, 1) := by decide +kernel
theorem dJx4a65c_add_7a177_33 : decode cJx4a65c_add_7a177 33 = .ok (.invokevirtual 129, 3) := by decide +kernel
theorem dJx4a65c_add_7a177_36 : decode cJx4a65c_add_7a177 36 = .ok (.astore 4, 2) := by decide +kernel
theorem dJx4a65c_add_7a177_38 : decode cJx4a65c_add_7a177 38 = .ok (.aload 4, 2) := by decide +kernel
theorem dJx4a65c_add_7a177_40 : decode cJx4a65c_add_7a177 40 = .ok (.iload_n 1, 1) := by decide +kernel
theorem dJx4a65c_add_7a177_41 : decode cJx4a65c_add_7a177 41 = .ok (.aload 4, 2) := by decide +kernel
theorem dJx4a65c_add_7a177_43 : decode cJx4a65c_add_7a177 43 = .ok (.iload_n 1, 1) := by decide +kernel
theorem dJx4a65c_add_7a177_44 : decode cJx4a65c_add_7a177 44 = .ok (.iconst 1, 1) := by decide +kernel
theorem dJx4a65c_add_7a177_45 : decode cJx4a65c_add_7a177 45 = .ok (.iadd, 1) := by decide +kernel
theorem dJx4a65c_add_7a177_46 : decode cJx4a65c_add_7a177 46 = .ok (.iload_n 3, 1) := by decide +kernel
theorem dJx4a65c_add_7a177_47 : decode cJx4a65c_add_7a177 47 = .ok (.iload_n 1, 1) := by decide +kernel
theorem dJx4a65c_add_7a177_48 : decode cJx4a65c_add_7a177 48 = .ok (.isub, 1) := by decide +kernel
theorem dJx4a65c_add_7a177_49 : decode cJx4a65c_add_7a177 49 = .ok (.invokestatic 112, 3) := by decide +kernel
theorem dJx4a65c_add_7a177_52 : decode cJx4a65c_add_7a177 52 = .ok (.aload 4, 2) := by decide +kernel
theorem dJx4a65c_add_7a177_54 : decode cJx4a65c_add_7a177 54 = .ok (.iload_n 1, 1) := by decide +kernel
theorem dJx4a65c_add_7a177_55 : decode cJx4a65c_add_7a177 55 = .ok (.aload_n 2, 1) := by decide +kernel
theorem dJx4a65c_add_7a177_56 : decode cJx4a65c_add_7a177 56 = .ok (.aastore, 1) := by decide +kernel
theorem dJx4a65c_add_7a177_57 : decode cJx4a65c_add_7a177 57 = .ok (.aload_n 0, 1) := by decide +kernel
theorem dJx4a65c_add_7a177_58 : decode cJx4a65c_add_7a177 58 = .ok (.iload_n 3, 1) := by decide +kernel
theorem dJx4a65c_add_7a177_59 : decode cJx4a65c_add_7a177 59 = .ok (.iconst 1, 1) := by decide +kernel
theorem dJx4a65c_add_7a177_60 : decode cJx4a65c_add_7a177 60 = .ok (.iadd, 1) := by decide +kernel
theorem dJx4a65c_add_7a177_61 : decode cJx4a65c_add_7a177 61 = .ok (.putfield 48, 3) := by decide +kernel
theorem dJx4a65c_add_7a177_64 : decode cJx4a65c_add_7a177 64 = .ok (.return_, 1) := by decide +kernel
theorem dJx4a65c_remove_915e3_0 : decode cJx4a65c_remove_915e3 0 = .ok (.iload_n 1, 1) := by decide +kernel
theorem dJx4a65c_remove_915e3_1 : decode cJx4a65c_remove_915e3 1 = .ok (.aload_n 0, 1) := by decide +kernel
theorem dJx4a65c_remove_915e3_2 : decode cJx4a65c_remove_915e3 2 = .ok (.getfield 48, 3) := by decide +kernel
theorem dJx4a65c_remove_915e3_5 : decode cJx4a65c_remove_915e3 5 = .ok (.invokestatic 118, 3) := by decide +kernel
theorem dJx4a65c_remove_915e3_8 : decode cJx4a65c_remove_915e3 8 = .ok (.pop, 1) := by decide +kernel
theorem dJx4a65c_remove_915e3_9 : decode cJx4a65c_remove_915e3 9 = .ok (.aload_n 0, 1) := by decide +kernel
theorem dJx4a65c_remove_915e3_10 : decode cJx4a65c_remove_915e3 10 = .ok (.getfield 9, 3) := by decide +kernel
theorem dJx4a65c_remove_915e3_13 : decode cJx4a65c_remove_915e3 13 = .ok (.astore_n 2, 1) := by decide +kernel
theorem dJx4a65c_remove_915e3_14 : decode cJx4a65c_remove_915e3 14 = .ok (.aload_n 2, 1) := by decide +kernel
theorem dJx4a65c_remove_915e3_15 : decode cJx4a65c_remove_915e3 15 = .ok (.iload_n 1, 1) := by decide +kernel
theorem dJx4a65c_remove_915e3_16 : decode cJx4a65c_remove_915e3 16 = .ok (.aaload, 1) := by decide +kernel
theorem dJx4a65c_remove_915e3_17 : decode cJx4a65c_remove_915e3 17 = .ok (.astore_n 3, 1) := by decide +kernel
theorem dJx4a65c_remove_915e3_18 : decode cJx4a65c_remove_915e3 18 = .ok (.aload_n 0, 1) := by decide +kernel
theorem dJx4a65c_remove_915e3_19 : decode cJx4a65c_remove_915e3 19 = .ok (.aload_n 2, 1) := by decide +kernel
theorem dJx4a65c_remove_915e3_20 : decode cJx4a65c_remove_915e3 20 = .ok (.iload_n 1, 1) := by decide +kernel
theorem dJx4a65c_remove_915e3_21 : decode cJx4a65c_remove_915e3 21 = .ok (.invokevirtual 144, 3) := by decide +kernel
theorem dJx4a65c_remove_915e3_24 : decode cJx4a65c_remove_915e3 24 = .ok (.aload_n 3, 1) := by decide +kernel
theorem dJx4a65c_remove_915e3_25 : decode cJx4a65c_remove_915e3 25 = .ok (.areturn, 1) := by decide +kernel
theorem dJx4a65c_fastRemove_b59b0_0 : decode cJx4a65c_fastRemove_b59b0 0 = .ok (.aload_n 0, 1) := by decide +kernel
theorem dJx4a65c_fastRemove_b59b0_1 : decode cJx4a65c_fastRemove_b59b0 1 = .ok (.dup, 1) := by decide +kernel
theorem dJx4a65c_fastRemove_b59b0_2 : decode cJx4a65c_fastRemove_b59b0 2 = .ok (.getfield 63, 3) := by decide +kernel
theorem dJx4a65c_fastRemove_b59b0_5 : decode cJx4a65c_fastRemove_b59b0 5 = .ok (.iconst 1, 1) := by decide +kernel
theorem dJx4a65c_fastRemove_b59b0_6 : decode cJx4a65c_fastRemove_b59b0 6 = .ok (.iadd, 1) := by decide +kernel
theorem dJx4a65c_fastRemove_b59b0_7 : decode cJx4a65c_fastRemove_b59b0 7 = .ok (.putfield 63, 3) := by decide +kernel
theorem dJx4a65c_fastRemove_b59b0_10 : decode cJx4a65c_fastRemove_b59b0 10 = .ok (.aload_n 0, 1) := by decide +kernel
theorem dJx4a65c_fastRemove_b59b0_11 : decode cJx4a65c_fastRemove_b59b0 11 = .ok (.getfield 48, 3) := by decide +kernel
theorem dJx4a65c_fastRemove_b59b0_14 : decode cJx4a65c_fastRemove_b59b0 14 = .ok (.iconst 1, 1) := by decide +kernel
theorem dJx4a65c_fastRemove_b59b0_15 : decode cJx4a65c_fastRemove_b59b0 15 = .ok (.isub, 1) := by decide +kernel
theorem dJx4a65c_fastRemove_b59b0_16 : decode cJx4a65c_fastRemove_b59b0 16 = .ok (.dup, 1) := by decide +kernel
theorem dJx4a65c_fastRemove_b59b0_17 : decode cJx4a65c_fastRemove_b59b0 17 = .ok (.istore_n 3, 1) := by decide +kernel
theorem dJx4a65c_fastRemove_b59b0_18 : decode cJx4a65c_fastRemove_b59b0 18 = .ok (.iload_n 2, 1) := by decide +kernel
theorem dJx4a65c_fastRemove_b59b0_19 : decode cJx4a65c_fastRemove_b59b0 19 = .ok (.if_icmp .le 15, 3) := by decide +kernel
theorem dJx4a65c_fastRemove_b59b0_22 : decode cJx4a65c_fastRemove_b59b0 22 = .ok (.aload_n 1, 1) := by decide +kernel
theorem dJx4a65c_fastRemove_b59b0_23 : decode cJx4a65c_fastRemove_b59b0 23 = .ok (.iload_n 2, 1) := by decide +kernel
theorem dJx4a65c_fastRemove_b59b0_24 : decode cJx4a65c_fastRemove_b59b0 24 = .ok (.iconst 1, 1) := by decide +kernel
theorem dJx4a65c_fastRemove_b59b0_25 : decode cJx4a65c_fastRemove_b59b0 25 = .ok (.iadd, 1) := by decide +kernel
theorem dJx4a65c_fastRemove_b59b0_26 : decode cJx4a65c_fastRemove_b59b0 26 = .ok (.aload_n 1, 1) := by decide +kernel
theorem dJx4a65c_fastRemove_b59b0_27 : decode cJx4a65c_fastRemove_b59b0 27 = .ok (.iload_n 2, 1) := by decide +kernel
theorem dJx4a65c_fastRemove_b59b0_28 : decode cJx4a65c_fastRemove_b59b0 28 = .ok (.iload_n 3, 1) := by decide +kernel
theorem dJx4a65c_fastRemove_b59b0_29 : decode cJx4a65c_fastRemove_b59b0 29 = .ok (.iload_n 2, 1) := by decide +kernel
theorem dJx4a65c_fastRemove_b59b0_30 : decode cJx4a65c_fastRemove_b59b0 30 = .ok (.isub, 1) := by decide +kernel
theorem dJx4a65c_fastRemove_b59b0_31 : decode cJx4a65c_fastRemove_b59b0 31 = .ok (.invokestatic 112, 3) := by decide +kernel
theorem dJx4a65c_fastRemove_b59b0_34 : decode cJx4a65c_fastRemove_b59b0 34 = .ok (.aload_n 1, 1) := by decide +kernel
theorem dJx4a65c_fastRemove_b59b0_35 : decode cJx4a65c_fastRemove_b59b0 35 = .ok (.aload_n 0, 1) := by decide +kernel
theorem dJx4a65c_fastRemove_b59b0_36 : decode cJx4a65c_fastRemove_b59b0 36 = .ok (.iload_n 3, 1) := by decide +kernel
theorem dJx4a65c_fastRemove_b59b0_37 : decode cJx4a65c_fastRemove_b59b0 37 = .ok (.dup_x1, 1) := by decide +kernel
theorem dJx4a65c_fastRemove_b59b0_38 : decode cJx4a65c_fastRemove_b59b0 38 = .ok (.putfield 48, 3) := by decide +kernel
theorem dJx4a65c_fastRemove_b59b0_41 : decode cJx4a65c_fastRemove_b59b0 41 = .ok (.aconst_null, 1) := by decide +kernel
theorem dJx4a65c_fastRemove_b59b0_42 : decode cJx4a65c_fastRemove_b59b0 42 = .ok (.aastore, 1) := by decide +kernel
theorem dJx4a65c_fastRemove_b59b0_43 : decode cJx4a65c_fastRemove_b59b0 43 = .ok (.return_, 1) := by decide +kernel
theorem dJx4a65c_clear_da8c8_0 : decode cJx4a65c_clear_da8c8 0 = .ok (.aload_n 0, 1) := by decide +kernel
theorem dJx4a65c_clear_da8c8_1 : decode cJx4a65c_clear_da8c8 1 = .ok (.dup, 1) := by decide +kernel
theorem dJx4a65c_clear_da8c8_2 : decode cJx4a65c_clear_da8c8 2 = .ok (.getfield 63, 3) := by decide +kernel
theorem dJx4a65c_clear_da8c8_5 : decode cJx4a65c_clear_da8c8 5 = .ok (.iconst 1, 1) := by decide +kernel
theorem dJx4a65c_clear_da8c8_6 : decode cJx4a65c_clear_da8c8 6 = .ok (.iadd, 1) := by decide +kernel
theorem dJx4a65c_clear_da8c8_7 : decode cJx4a65c_clear_da8c8 7 = .ok (.putfield 63, 3) := by decide +kernel
theorem dJx4a65c_clear_da8c8_10 : decode cJx4a65c_clear_da8c8 10 = .ok (.aload_n 0, 1) := by decide +kernel
theorem dJx4a65c_clear_da8c8_11 : decode cJx4a65c_clear_da8c8 11 = .ok (.getfield 9, 3) := by decide +kernel
theorem dJx4a65c_clear_da8c8_14 : decode cJx4a65c_clear_da8c8 14 = .ok (.astore_n 1, 1) := by decide +kernel
theorem dJx4a65c_clear_da8c8_15 : decode cJx4a65c_clear_da8c8 15 = .ok (.aload_n 0, 1) := by decide +kernel
theorem dJx4a65c_clear_da8c8_16 : decode cJx4a65c_clear_da8c8 16 = .ok (.getfield 48, 3) := by decide +kernel
theorem dJx4a65c_clear_da8c8_19 : decode cJx4a65c_clear_da8c8 19 = .ok (.istore_n 2, 1) := by decide +kernel
theorem dJx4a65c_clear_da8c8_20 : decode cJx4a65c_clear_da8c8 20 = .ok (.aload_n 0, 1) := by decide +kernel
theorem dJx4a65c_clear_da8c8_21 : decode cJx4a65c_clear_da8c8 21 = .ok (.iconst 0, 1) := by decide +kernel
theorem dJx4a65c_clear_da8c8_22 : decode cJx4a65c_clear_da8c8 22 = .ok (.dup_x1, 1) := by decide +kernel
theorem dJx4a65c_clear_da8c8_23 : decode cJx4a65c_clear_da8c8 23 = .ok (.putfield 48, 3) := by decide +kernel
theorem dJx4a65c_clear_da8c8_26 : decode cJx4a65c_clear_da8c8 26 = .ok (.istore_n 3, 1) := by decide +kernel
theorem dJx4a65c_clear_da8c8_27 : decode cJx4a65c_clear_da8c8 27 = .ok (.iload_n 3, 1) := by decide +kernel
theorem dJx4a65c_clear_da8c8_28 : decode cJx4a65c_clear_da8c8 28 = .ok (.iload_n 2, 1) := by decide +kernel
theorem dJx4a65c_clear_da8c8_29 : decode cJx4a65c_clear_da8c8 29 = .ok (.if_icmp .ge 13, 3) := by decide +kernel
theorem dJx4a65c_clear_da8c8_32 : decode cJx4a65c_clear_da8c8 32 = .ok (.aload_n 1, 1) := by decide +kernel
theorem dJx4a65c_clear_da8c8_33 : decode cJx4a65c_clear_da8c8 33 = .ok (.iload_n 3, 1) := by decide +kernel
theorem dJx4a65c_clear_da8c8_34 : decode cJx4a65c_clear_da8c8 34 = .ok (.aconst_null, 1) := by decide +kernel
theorem dJx4a65c_clear_da8c8_35 : decode cJx4a65c_clear_da8c8 35 = .ok (.aastore, 1) := by decide +kernel
theorem dJx4a65c_clear_da8c8_36 : decode cJx4a65c_clear_da8c8 36 = .ok (.iinc 3 1, 3) := by decide +kernel
theorem dJx4a65c_clear_da8c8_39 : decode cJx4a65c_clear_da8c8 39 = .ok (.goto (-12), 3) := by decide +kernel
theorem dJx4a65c_clear_da8c8_42 : decode cJx4a65c_clear_da8c8 42 = .ok (.return_, 1) := by decide +kernel
theorem dJx4a65c_rangeCheckForAdd_d00df_0 : decode cJx4a65c_rangeCheckForAdd_d00df 0 = .ok (.iload_n 1, 1) := by decide +kernel
theorem dJx4a65c_rangeCheckForAdd_d00df_1 : decode cJx4a65c_rangeCheckForAdd_d00df 1 = .ok (.aload_n 0, 1) := by decide +kernel
theorem dJx4a65c_rangeCheckForAdd_d00df_2 : decode cJx4a65c_rangeCheckForAdd_d00df 2 = .ok (.getfield 48, 3) := by decide +kernel
theorem dJx4a65c_rangeCheckForAdd_d00df_5 : decode cJx4a65c_rangeCheckForAdd_d00df 5 = .ok (.if_icmp .gt 7, 3) := by decide +kernel
theorem dJx4a65c_rangeCheckForAdd_d00df_8 : decode cJx4a65c_rangeCheckForAdd_d00df 8 = .ok (.iload_n 1, 1) := by decide +kernel
theorem dJx4a65c_rangeCheckForAdd_d00df_9 : decode cJx4a65c_rangeCheckForAdd_d00df 9 = .ok (.ifCond .ge 16, 3) := by decide +kernel
theorem dJx4a65c_rangeCheckForAdd_d00df_12 : decode cJx4a65c_rangeCheckForAdd_d00df 12 = .ok (.new 187, 3) := by decide +kernel
theorem dJx4a65c_rangeCheckForAdd_d00df_15 : decode cJx4a65c_rangeCheckForAdd_d00df 15 = .ok (.dup, 1) := by decide +kernel
theorem dJx4a65c_rangeCheckForAdd_d00df_16 : decode cJx4a65c_rangeCheckForAdd_d00df 16 = .ok (.aload_n 0, 1) := by decide +kernel
theorem dJx4a65c_rangeCheckForAdd_d00df_17 : decode cJx4a65c_rangeCheckForAdd_d00df 17 = .ok (.iload_n 1, 1) := by decide +kernel
theorem dJx4a65c_rangeCheckForAdd_d00df_18 : decode cJx4a65c_rangeCheckForAdd_d00df 18 = .ok (.invokevirtual 198, 3) := by decide +kernel
theorem dJx4a65c_rangeCheckForAdd_d00df_21 : decode cJx4a65c_rangeCheckForAdd_d00df 21 = .ok (.invokespecial 193, 3) := by decide +kernel
theorem dJx4a65c_rangeCheckForAdd_d00df_24 : decode cJx4a65c_rangeCheckForAdd_d00df 24 = .ok (.athrow, 1) := by decide +kernel
theorem dJx4a65c_rangeCheckForAdd_d00df_25 : decode cJx4a65c_rangeCheckForAdd_d00df 25 = .ok (.return_, 1) := by decide +kernel
theorem dJ7_copyOf_1904c_0 : decode cJ7_copyOf_1904c 0 = .ok (.aload_n 0, 1) := by decide +kernel
theorem dJ7_copyOf_1904c_1 : decode cJ7_copyOf_1904c 1 = .ok (.iload_n 1, 1) := by decide +kernel
theorem dJ7_copyOf_1904c_2 : decode cJ7_copyOf_1904c 2 = .ok (.aload_n 0, 1) := by decide +kernel
theorem dJ7_copyOf_1904c_3 : decode cJ7_copyOf_1904c 3 = .ok (.invokevirtual 86, 3) := by decide +kernel
theorem dJ7_copyOf_1904c_6 : decode cJ7_copyOf_1904c 6 = .ok (.invokestatic 300, 3) := by decide +kernel
theorem dJ7_copyOf_1904c_9 : decode cJ7_copyOf_1904c 9 = .ok (.areturn, 1) := by decide +kernel
theorem dJ7_copyOf_6403c_0 : decode cJ7_copyOf_6403c 0 = .ok (.aload_n 2, 1) := by decide +kernel
theorem dJ7_copyOf_6403c_1 : decode cJ7_copyOf_6403c 1 = .ok (.ldc 110, 2) := by decide +kernel
theorem dJ7_copyOf_6403c_3 : decode cJ7_copyOf_6403c 3 = .ok (.if_acmp .ne 10, 3) := by decide +kernel
theorem dJ7_copyOf_6403c_6 : decode cJ7_copyOf_6403c 6 = .ok (.iload_n 1, 1) := by decide +kernel
theorem dJ7_copyOf_6403c_7 : decode cJ7_copyOf_6403c 7 = .ok (.anewarray 2, 3) := by decide +kernel
theorem dJ7_copyOf_6403c_10 : decode cJ7_copyOf_6403c 10 = .ok (.goto 14, 3) := by decide +kernel
theorem dJ7_copyOf_6403c_13 : decode cJ7_copyOf_6403c 13 = .ok (.aload_n 2, 1) := by decide +kernel
theorem dJ7_copyOf_6403c_14 : decode cJ7_copyOf_6403c 14 = .ok (.invokevirtual 90, 3) := by decide +kernel
theorem dJ7_copyOf_6403c_17 : decode cJ7_copyOf_6403c 17 = .ok (.iload_n 1, 1) := by decide +kernel
theorem dJ7_copyOf_6403c_18 : decode cJ7_copyOf_6403c 18 = .ok (.invokestatic 95, 3) := by decide +kernel
theorem dJ7_copyOf_6403c_21 : decode cJ7_copyOf_6403c 21 = .ok (.checkcast 110, 3) := by decide +kernel
theorem dJ7_copyOf_6403c_24 : decode cJ7_copyOf_6403c 24 = .ok (.astore_n 3, 1) := by decide +kernel
theorem dJ7_copyOf_6403c_25 : decode cJ7_copyOf_6403c 25 = .ok (.aload_n 0, 1) := by decide +kernel
theorem dJ7_copyOf_6403c_26 : decode cJ7_copyOf_6403c 26 = .ok (.iconst 0, 1) := by decide +kernel
theorem dJ7_copyOf_6403c_27 : decode cJ7_copyOf_6403c 27 = .ok (.aload_n 3, 1) := by decide +kernel
theorem dJ7_copyOf_6403c_28 : decode cJ7_copyOf_6403c 28 = .ok (.iconst 0, 1) := by decide +kernel
theorem dJ7_copyOf_6403c_29 : decode cJ7_copyOf_6403c 29 = .ok (.aload_n 0, 1) := by decide +kernel
theorem dJ7_copyOf_6403c_30 : decode cJ7_copyOf_6403c 30 = .ok (.arraylength, 1) := by decide +kernel
theorem dJ7_copyOf_6403c_31 : decode cJ7_copyOf_6403c 31 = .ok (.iload_n 1, 1) := by decide +kernel
theorem dJ7_copyOf_6403c_32 : decode cJ7_copyOf_6403c 32 = .ok (.invokestatic 304, 3) := by decide +kernel
theorem dJ7_copyOf_6403c_35 : decode cJ7_copyOf_6403c 35 = .ok (.invokestatic 150, 3) := by decide +kernel
theorem dJ7_copyOf_6403c_38 : decode cJ7_copyOf_6403c 38 = .ok (.aload_n 3, 1) := by decide +kernel
theorem dJ7_copyOf_6403c_39 : decode cJ7_copyOf_6403c 39 = .ok (.areturn, 1) := by decide +kernel
theorem dJ15_checkIndex_7cf53_0 : decode cJ15_checkIndex_7cf53 0 = .ok (.iload_n 0, 1) := by decide +kernel
theorem dJ15_checkIndex_7cf53_1 : decode cJ15_checkIndex_7cf53 1 = .ok (.iload_n 1, 1) := by decide +kernel
theorem dJ15_checkIndex_7cf53_2 : decode cJ15_checkIndex_7cf53 2 = .ok (.aconst_null, 1) := by decide +kernel
theorem dJ15_checkIndex_7cf53_3 : decode cJ15_checkIndex_7cf53 3 = .ok (.invokestatic 105, 3) := by decide +kernel
theorem dJ15_checkIndex_7cf53_6 : decode cJ15_checkIndex_7cf53 6 = .ok (.ireturn, 1) := by decide +kernel
theorem dJ8_newLength_cabcc_0 : decode cJ8_newLength_cabcc 0 = .ok (.iload_n 0, 1) := by decide +kernel
theorem dJ8_newLength_cabcc_1 : decode cJ8_newLength_cabcc 1 = .ok (.iload_n 1, 1) := by decide +kernel
theorem dJ8_newLength_cabcc_2 : decode cJ8_newLength_cabcc 2 = .ok (.iload_n 2, 1) := by decide +kernel
theorem dJ8_newLength_cabcc_3 : decode cJ8_newLength_cabcc 3 = .ok (.invokestatic 194, 3) := by decide +kernel
theorem dJ8_newLength_cabcc_6 : decode cJ8_newLength_cabcc 6 = .ok (.iadd, 1) := by decide +kernel
theorem dJ8_newLength_cabcc_7 : decode cJ8_newLength_cabcc 7 = .ok (.istore_n 3, 1) := by decide +kernel
theorem dJ8_newLength_cabcc_8 : decode cJ8_newLength_cabcc 8 = .ok (.iconst 0, 1) := by decide +kernel
theorem dJ8_newLength_cabcc_9 : decode cJ8_newLength_cabcc 9 = .ok (.iload_n 3, 1) := by decide +kernel
theorem dJ8_newLength_cabcc_10 : decode cJ8_newLength_cabcc 10 = .ok (.if_icmp .ge 11, 3) := by decide +kernel
theorem dJ8_newLength_cabcc_13 : decode cJ8_newLength_cabcc 13 = .ok (.iload_n 3, 1) := by decide +kernel
theorem dJ8_newLength_cabcc_14 : decode cJ8_newLength_cabcc 14 = .ok (.ldc 200, 2) := by decide +kernel
theorem dJ8_newLength_cabcc_16 : decode cJ8_newLength_cabcc 16 = .ok (.if_icmp .gt 5, 3) := by decide +kernel
theorem dJ8_newLength_cabcc_19 : decode cJ8_newLength_cabcc 19 = .ok (.iload_n 3, 1) := by decide +kernel
theorem dJ8_newLength_cabcc_20 : decode cJ8_newLength_cabcc 20 = .ok (.ireturn, 1) := by decide +kernel
theorem dJ8_newLength_cabcc_21 : decode cJ8_newLength_cabcc 21 = .ok (.iload_n 0, 1) := by decide +kernel
theorem dJ8_newLength_cabcc_22 : decode cJ8_newLength_cabcc 22 = .ok (.iload_n 1, 1) := by decide +kernel
theorem dJ8_newLength_cabcc_23 : decode cJ8_newLength_cabcc 23 = .ok (.invokestatic 201, 3) := by decide +kernel
theorem dJ8_newLength_cabcc_26 : decode cJ8_newLength_cabcc 26 = .ok (.ireturn, 1) := by decide +kernel
theorem dJ3_checkIndex_8e157_0 : decode cJ3_checkIndex_8e157 0 = .ok (.iload_n 0, 1) := by decide +kernel
theorem dJ3_checkIndex_8e157_1 : decode cJ3_checkIndex_8e157 1 = .ok (.ifCond .lt 8, 3) := by decide +kernel
theorem dJ3_checkIndex_8e157_4 : decode cJ3_checkIndex_8e157 4 = .ok (.iload_n 0, 1) := by decide +kernel
theorem dJ3_checkIndex_8e157_5 : decode cJ3_checkIndex_8e157 5 = .ok (.iload_n 1, 1) := by decide +kernel
theorem dJ3_checkIndex_8e157_6 : decode cJ3_checkIndex_8e157 6 = .ok (.if_icmp .lt 10, 3) := by decide +kernel
theorem dJ3_checkIndex_8e157_9 : decode cJ3_checkIndex_8e157 9 = .ok (.aload_n 2, 1) := by decide +kernel
theorem dJ3_checkIndex_8e157_10 : decode cJ3_checkIndex_8e157 10 = .ok (.iload_n 0, 1) := by decide +kernel
theorem dJ3_checkIndex_8e157_11 : decode cJ3_checkIndex_8e157 11 = .ok (.iload_n 1, 1) := by decide +kernel
theorem dJ3_checkIndex_8e157_12 : decode cJ3_checkIndex_8e157 12 = .ok (.invokestatic 95, 3) := by decide +kernel
theorem dJ3_checkIndex_8e157_15 : decode cJ3_checkIndex_8e157 15 = .ok (.athrow, 1) := by decide +kernel
theorem dJ3_checkIndex_8e157_16 : decode cJ3_checkIndex_8e157 16 = .ok (.iload_n 0, 1) := by decide +kernel
theorem dJ3_checkIndex_8e157_17 : decode cJ3_checkIndex_8e157 17 = .ok (.ireturn, 1) := by decide +kernel
theorem dL_addTeam_0 : decode cL_addTeam 0 = .ok (.aload_n 3, 1) := by decide +kernel
theorem dL_addTeam_1 : decode cL_addTeam 1 = .ok (.iconst 0, 1) := by decide +kernel
theorem dL_addTeam_2 : decode cL_addTeam 2 = .ok (.aload_n 0, 1) := by decide +kernel
theorem dL_addTeam_3 : decode cL_addTeam 3 = .ok (.iload_n 1, 1) := by decide +kernel
theorem dL_addTeam_4 : decode cL_addTeam 4 = .ok (.iload_n 2, 1) := by decide +kernel
theorem dL_addTeam_5 : decode cL_addTeam 5 = .ok (.invokevirtual 7, 3) := by decide +kernel
theorem dL_addTeam_8 : decode cL_addTeam 8 = .ok (.i2l, 1) := by decide +kernel
theorem dL_addTeam_9 : decode cL_addTeam 9 = .ok (.lastore, 1) := by decide +kernel
theorem dL_addTeam_10 : decode cL_addTeam 10 = .ok (.goto 15, 3) := by decide +kernel
theorem dL_addTeam_13 : decode cL_addTeam 13 = .ok (.astore 4, 2) := by decide +kernel
theorem dL_addTeam_15 : decode cL_addTeam 15 = .ok (.iconst 1, 1) := by decide +kernel
theorem dL_addTeam_16 : decode cL_addTeam 16 = .ok (.ireturn, 1) := by decide +kernel
theorem dL_addTeam_17 : decode cL_addTeam 17 = .ok (.astore 4, 2) := by decide +kernel
theorem dL_addTeam_19 : decode cL_addTeam 19 = .ok (.iconst 2, 1) := by decide +kernel
theorem dL_addTeam_20 : decode cL_addTeam 20 = .ok (.ireturn, 1) := by decide +kernel
theorem dL_addTeam_21 : decode cL_addTeam 21 = .ok (.astore 4, 2) := by decide +kernel
theorem dL_addTeam_23 : decode cL_addTeam 23 = .ok (.iconst 3, 1) := by decide +kernel
theorem dL_addTeam_24 : decode cL_addTeam 24 = .ok (.ireturn, 1) := by decide +kernel
theorem dL_addTeam_25 : decode cL_addTeam 25 = .ok (.iconst 0, 1) := by decide +kernel
theorem dL_addTeam_26 : decode cL_addTeam 26 = .ok (.ireturn, 1) := by decide +kernel
theorem dL_setWeight_0 : decode cL_setWeight 0 = .ok (.aload_n 3, 1) := by decide +kernel
theorem dL_setWeight_1 : decode cL_setWeight 1 = .ok (.iconst 0, 1) := by decide +kernel
theorem dL_setWeight_2 : decode cL_setWeight 2 = .ok (.aload_n 0, 1) := by decide +kernel
theorem dL_setWeight_3 : decode cL_setWeight 3 = .ok (.iload_n 1, 1) := by decide +kernel
theorem dL_setWeight_4 : decode cL_setWeight 4 = .ok (.iload_n 2, 1) := by decide +kernel
theorem dL_setWeight_5 : decode cL_setWeight 5 = .ok (.invokevirtual 19, 3) := by decide +kernel
theorem dL_setWeight_8 : decode cL_setWeight 8 = .ok (.i2l, 1) := by decide +kernel
theorem dL_setWeight_9 : decode cL_setWeight 9 = .ok (.lastore, 1) := by decide +kernel
theorem dL_setWeight_10 : decode cL_setWeight 10 = .ok (.goto 15, 3) := by decide +kernel
theorem dL_setWeight_13 : decode cL_setWeight 13 = .ok (.astore 4, 2) := by decide +kernel
theorem dL_setWeight_15 : decode cL_setWeight 15 = .ok (.iconst 1, 1) := by decide +kernel
theorem dL_setWeight_16 : decode cL_setWeight 16 = .ok (.ireturn, 1) := by decide +kernel
theorem dL_setWeight_17 : decode cL_setWeight 17 = .ok (.astore 4, 2) := by decide +kernel
theorem dL_setWeight_19 : decode cL_setWeight 19 = .ok (.iconst 2, 1) := by decide +kernel
theorem dL_setWeight_20 : decode cL_setWeight 20 = .ok (.ireturn, 1) := by decide +kernel
theorem dL_setWeight_21 : decode cL_setWeight 21 = .ok (.astore 4, 2) := by decide +kernel
theorem dL_setWeight_23 : decode cL_setWeight 23 = .ok (.iconst 3, 1) := by decide +kernel
theorem dL_setWeight_24 : decode cL_setWeight 24 = .ok (.ireturn, 1) := by decide +kernel
theorem dL_setWeight_25 : decode cL_setWeight 25 = .ok (.iconst 0, 1) := by decide +kernel
theorem dL_setWeight_26 : decode cL_setWeight 26 = .ok (.ireturn, 1) := by decide +kernel
theorem dL_setLimit_0 : decode cL_setLimit 0 = .ok (.aload_n 3, 1) := by decide +kernel
theorem dL_setLimit_1 : decode cL_setLimit 1 = .ok (.iconst 0, 1) := by decide +kernel
theorem dL_setLimit_2 : decode cL_setLimit 2 = .ok (.aload_n 0, 1) := by decide +kernel
theorem dL_setLimit_3 : decode cL_setLimit 3 = .ok (.iload_n 1, 1) := by decide +kernel
theorem dL_setLimit_4 : decode cL_setLimit 4 = .ok (.iload_n 2, 1) := by decide +kernel
theorem dL_setLimit_5 : decode cL_setLimit 5 = .ok (.invokevirtual 24, 3) := by decide +kernel
theorem dL_setLimit_8 : decode cL_setLimit 8 = .ok (.i2l, 1) := by decide +kernel
theorem dL_setLimit_9 : decode cL_setLimit 9 = .ok (.lastore, 1) := by decide +kernel
theorem dL_setLimit_10 : decode cL_setLimit 10 = .ok (.goto 15, 3) := by decide +kernel
theorem dL_setLimit_13 : decode cL_setLimit 13 = .ok (.astore 4, 2) := by decide +kernel
theorem dL_setLimit_15 : decode cL_setLimit 15 = .ok (.iconst 1, 1) := by decide +kernel
theorem dL_setLimit_16 : decode cL_setLimit 16 = .ok (.ireturn, 1) := by decide +kernel
theorem dL_setLimit_17 : decode cL_setLimit 17 = .ok (.astore 4, 2) := by decide +kernel
theorem dL_setLimit_19 : decode cL_setLimit 19 = .ok (.iconst 2, 1) := by decide +kernel
theorem dL_setLimit_20 : decode cL_setLimit 20 = .ok (.ireturn, 1) := by decide +kernel
theorem dL_setLimit_21 : decode cL_setLimit 21 = .ok (.astore 4, 2) := by decide +kernel
theorem dL_setLimit_23 : decode cL_setLimit 23 = .ok (.iconst 3, 1) := by decide +kernel
theorem dL_setLimit_24 : decode cL_setLimit 24 = .ok (.ireturn, 1) := by decide +kernel
theorem dL_setLimit_25 : decode cL_setLimit 25 = .ok (.iconst 0, 1) := by decide +kernel
theorem dL_setLimit_26 : decode cL_setLimit 26 = .ok (.ireturn, 1) := by decide +kernel
theorem dL_setCapacity_0 : decode cL_setCapacity 0 = .ok (.aload_n 2, 1) := by decide +kernel
theorem dL_setCapacity_1 : decode cL_setCapacity 1 = .ok (.iconst 0, 1) := by decide +kernel
theorem dL_setCapacity_2 : decode cL_setCapacity 2 = .ok (.aload_n 0, 1) := by decide +kernel
theorem dL_setCapacity_3 : decode cL_setCapacity 3 = .ok (.iload_n 1, 1) := by decide +kernel
theorem dL_setCapacity_4 : decode cL_setCapacity 4 = .ok (.invokevirtual 27, 3) := by decide +kernel
theorem dL_setCapacity_7 : decode cL_setCapacity 7 = .ok (.i2l, 1) := by decide +kernel
theorem dL_setCapacity_8 : decode cL_setCapacity 8 = .ok (.lastore, 1) := by decide +kernel
theorem dL_setCapacity_9 : decode cL_setCapacity 9 = .ok (.goto 9, 3) := by decide +kernel
theorem dL_setCapacity_12 : decode cL_setCapacity 12 = .ok (.astore_n 3, 1) := by decide +kernel
theorem dL_setCapacity_13 : decode cL_setCapacity 13 = .ok (.iconst 1, 1) := by decide +kernel
theorem dL_setCapacity_14 : decode cL_setCapacity 14 = .ok (.ireturn, 1) := by decide +kernel
theorem dL_setCapacity_15 : decode cL_setCapacity 15 = .ok (.astore_n 3, 1) := by decide +kernel
theorem dL_setCapacity_16 : decode cL_setCapacity 16 = .ok (.iconst 2, 1) := by decide +kernel
theorem dL_setCapacity_17 : decode cL_setCapacity 17 = .ok (.ireturn, 1) := by decide +kernel
theorem dL_setCapacity_18 : decode cL_setCapacity 18 = .ok (.iconst 0, 1) := by decide +kernel
theorem dL_setCapacity_19 : decode cL_setCapacity 19 = .ok (.ireturn, 1) := by decide +kernel
theorem dL_setHalfTime_0 : decode cL_setHalfTime 0 = .ok (.aload_n 2, 1) := by decide +kernel
theorem dL_setHalfTime_1 : decode cL_setHalfTime 1 = .ok (.iconst 0, 1) := by decide +kernel
theorem dL_setHalfTime_2 : decode cL_setHalfTime 2 = .ok (.aload_n 0, 1) := by decide +kernel
theorem dL_setHalfTime_3 : decode cL_setHalfTime 3 = .ok (.iload_n 1, 1) := by decide +kernel
theorem dL_setHalfTime_4 : decode cL_setHalfTime 4 = .ok (.invokevirtual 31, 3) := by decide +kernel
theorem dL_setHalfTime_7 : decode cL_setHalfTime 7 = .ok (.i2l, 1) := by decide +kernel
theorem dL_setHalfTime_8 : decode cL_setHalfTime 8 = .ok (.lastore, 1) := by decide +kernel
theorem dL_setHalfTime_9 : decode cL_setHalfTime 9 = .ok (.goto 6, 3) := by decide +kernel
theorem dL_setHalfTime_12 : decode cL_setHalfTime 12 = .ok (.astore_n 3, 1) := by decide +kernel
theorem dL_setHalfTime_13 : decode cL_setHalfTime 13 = .ok (.iconst 1, 1) := by decide +kernel
theorem dL_setHalfTime_14 : decode cL_setHalfTime 14 = .ok (.ireturn, 1) := by decide +kernel
theorem dL_setHalfTime_15 : decode cL_setHalfTime 15 = .ok (.iconst 0, 1) := by decide +kernel
theorem dL_setHalfTime_16 : decode cL_setHalfTime 16 = .ok (.ireturn, 1) := by decide +kernel
theorem dL_parentOf_0 : decode cL_parentOf 0 = .ok (.aload_n 2, 1) := by decide +kernel
theorem dL_parentOf_1 : decode cL_parentOf 1 = .ok (.iconst 0, 1) := by decide +kernel
theorem dL_parentOf_2 : decode cL_parentOf 2 = .ok (.aload_n 0, 1) := by decide +kernel
theorem dL_parentOf_3 : decode cL_parentOf 3 = .ok (.iload_n 1, 1) := by decide +kernel
theorem dL_parentOf_4 : decode cL_parentOf 4 = .ok (.invokevirtual 34, 3) := by decide +kernel
theorem dL_parentOf_7 : decode cL_parentOf 7 = .ok (.i2l, 1) := by decide +kernel
theorem dL_parentOf_8 : decode cL_parentOf 8 = .ok (.lastore, 1) := by decide +kernel
theorem dL_parentOf_9 : decode cL_parentOf 9 = .ok (.goto 9, 3) := by decide +kernel
theorem dL_parentOf_12 : decode cL_parentOf 12 = .ok (.astore_n 3, 1) := by decide +kernel
theorem dL_parentOf_13 : decode cL_parentOf 13 = .ok (.iconst 1, 1) := by decide +kernel
theorem dL_parentOf_14 : decode cL_parentOf 14 = .ok (.ireturn, 1) := by decide +kernel
theorem dL_parentOf_15 : decode cL_parentOf 15 = .ok (.astore_n 3, 1) := by decide +kernel
theorem dL_parentOf_16 : decode cL_parentOf 16 = .ok (.iconst 2, 1) := by decide +kernel
theorem dL_parentOf_17 : decode cL_parentOf 17 = .ok (.ireturn, 1) := by decide +kernel
theorem dL_parentOf_18 : decode cL_parentOf 18 = .ok (.iconst 0, 1) := by decide +kernel
theorem dL_parentOf_19 : decode cL_parentOf 19 = .ok (.ireturn, 1) := by decide +kernel
theorem dL_children_0 : decode cL_children 0 = .ok (.aload_n 2, 1) := by decide +kernel
theorem dL_children_1 : decode cL_children 1 = .ok (.iconst 0, 1) := by decide +kernel
theorem dL_children_2 : decode cL_children 2 = .ok (.aload_n 0, 1) := by decide +kernel
theorem dL_children_3 : decode cL_children 3 = .ok (.iload_n 1, 1) := by decide +kernel
theorem dL_children_4 : decode cL_children 4 = .ok (.invokevirtual 37, 3) := by decide +kernel
theorem dL_children_7 : decode cL_children 7 = .ok (.i2l, 1) := by decide +kernel
theorem dL_children_8 : decode cL_children 8 = .ok (.lastore, 1) := by decide +kernel
theorem dL_children_9 : decode cL_children 9 = .ok (.goto 6, 3) := by decide +kernel
theorem dL_children_12 : decode cL_children 12 = .ok (.astore_n 3, 1) := by decide +kernel
theorem dL_children_13 : decode cL_children 13 = .ok (.iconst 1, 1) := by decide +kernel
theorem dL_children_14 : decode cL_children 14 = .ok (.ireturn, 1) := by decide +kernel
theorem dL_children_15 : decode cL_children 15 = .ok (.iconst 0, 1) := by decide +kernel
theorem dL_children_16 : decode cL_children 16 = .ok (.ireturn, 1) := by decide +kernel
theorem dL_submit_0 : decode cL_submit 0 = .ok (.aload 4, 2) := by decide +kernel
theorem dL_submit_2 : decode cL_submit 2 = .ok (.iconst 0, 1) := by decide +kernel
theorem dL_submit_3 : decode cL_submit 3 = .ok (.aload_n 0, 1) := by decide +kernel
theorem dL_submit_4 : decode cL_submit 4 = .ok (.iload_n 1, 1) := by decide +kernel
theorem dL_submit_5 : decode cL_submit 5 = .ok (.iload_n 2, 1) := by decide +kernel
theorem dL_submit_6 : decode cL_submit 6 = .ok (.iload_n 3, 1) := by decide +kernel
theorem dL_submit_7 : decode cL_submit 7 = .ok (.invokevirtual 40, 3) := by decide +kernel
theorem dL_submit_10 : decode cL_submit 10 = .ok (.i2l, 1) := by decide +kernel
theorem dL_submit_11 : decode cL_submit 11 = .ok (.lastore, 1) := by decide +kernel
theorem dL_submit_12 : decode cL_submit 12 = .ok (.goto 19, 3) := by decide +kernel
theorem dL_submit_15 : decode cL_submit 15 = .ok (.astore 5, 2) := by decide +kernel
theorem dL_submit_17 : decode cL_submit 17 = .ok (.iconst 1, 1) := by decide +kernel
theorem dL_submit_18 : decode cL_submit 18 = .ok (.ireturn, 1) := by decide +kernel
theorem dL_submit_19 : decode cL_submit 19 = .ok (.astore 5, 2) := by decide +kernel
theorem dL_submit_21 : decode cL_submit 21 = .ok (.iconst 2, 1) := by decide +kernel
theorem dL_submit_22 : decode cL_submit 22 = .ok (.ireturn, 1) := by decide +kernel
theorem dL_submit_23 : decode cL_submit 23 = .ok (.astore 5, 2) := by decide +kernel
theorem dL_submit_25 : decode cL_submit 25 = .ok (.iconst 3, 1) := by decide +kernel
theorem dL_submit_26 : decode cL_submit 26 = .ok (.ireturn, 1) := by decide +kernel
theorem dL_submit_27 : decode cL_submit 27 = .ok (.astore 5, 2) := by decide +kernel
theorem dL_submit_29 : decode cL_submit 29 = .ok (.iconst 4, 1) := by decide +kernel
theorem dL_submit_30 : decode cL_submit 30 = .ok (.ireturn, 1) := by decide +kernel
theorem dL_submit_31 : decode cL_submit 31 = .ok (.iconst 0, 1) := by decide +kernel
theorem dL_submit_32 : decode cL_submit 32 = .ok (.ireturn, 1) := by decide +kernel
theorem dL_cancel_0 : decode cL_cancel 0 = .ok (.aload_n 2, 1) := by decide +kernel
theorem dL_cancel_1 : decode cL_cancel 1 = .ok (.iconst 0, 1) := by decide +kernel
theorem dL_cancel_2 : decode cL_cancel 2 = .ok (.aload_n 0, 1) := by decide +kernel
theorem dL_cancel_3 : decode cL_cancel 3 = .ok (.iload_n 1, 1) := by decide +kernel
theorem dL_cancel_4 : decode cL_cancel 4 = .ok (.invokevirtual 44, 3) := by decide +kernel
theorem dL_cancel_7 : decode cL_cancel 7 = .ok (.i2l, 1) := by decide +kernel
theorem dL_cancel_8 : decode cL_cancel 8 = .ok (.lastore, 1) := by decide +kernel
theorem dL_cancel_9 : decode cL_cancel 9 = .ok (.goto 9, 3) := by decide +kernel
theorem dL_cancel_12 : decode cL_cancel 12 = .ok (.astore_n 3, 1) := by decide +kernel
theorem dL_cancel_13 : decode cL_cancel 13 = .ok (.iconst 1, 1) := by decide +kernel
theorem dL_cancel_14 : decode cL_cancel 14 = .ok (.ireturn, 1) := by decide +kernel
theorem dL_cancel_15 : decode cL_cancel 15 = .ok (.astore_n 3, 1) := by decide +kernel
theorem dL_cancel_16 : decode cL_cancel 16 = .ok (.iconst 2, 1) := by decide +kernel
theorem dL_cancel_17 : decode cL_cancel 17 = .ok (.ireturn, 1) := by decide +kernel
theorem dL_cancel_18 : decode cL_cancel 18 = .ok (.iconst 0, 1) := by decide +kernel
theorem dL_cancel_19 : decode cL_cancel 19 = .ok (.ireturn, 1) := by decide +kernel
theorem dL_pass_0 : decode cL_pass 0 = .ok (.aload_n 2, 1) := by decide +kernel
theorem dL_pass_1 : decode cL_pass 1 = .ok (.iconst 0, 1) := by decide +kernel
theorem dL_pass_2 : decode cL_pass 2 = .ok (.aload_n 0, 1) := by decide +kernel
theorem dL_pass_3 : decode cL_pass 3 = .ok (.iload_n 1, 1) := by decide +kernel
theorem dL_pass_4 : decode cL_pass 4 = .ok (.invokevirtual 49, 3) := by decide +kernel
theorem dL_pass_7 : decode cL_pass 7 = .ok (.i2l, 1) := by decide +kernel
theorem dL_pass_8 : decode cL_pass 8 = .ok (.lastore, 1) := by decide +kernel
theorem dL_pass_9 : decode cL_pass 9 = .ok (.goto 6, 3) := by decide +kernel
theorem dL_pass_12 : decode cL_pass 12 = .ok (.astore_n 3, 1) := by decide +kernel
theorem dL_pass_13 : decode cL_pass 13 = .ok (.iconst 1, 1) := by decide +kernel
theorem dL_pass_14 : decode cL_pass 14 = .ok (.ireturn, 1) := by decide +kernel
theorem dL_pass_15 : decode cL_pass 15 = .ok (.iconst 0, 1) := by decide +kernel
theorem dL_pass_16 : decode cL_pass 16 = .ok (.ireturn, 1) := by decide +kernel
theorem dL_stateOf_0 : decode cL_stateOf 0 = .ok (.aload_n 2, 1) := by decide +kernel
theorem dL_stateOf_1 : decode cL_stateOf 1 = .ok (.iconst 0, 1) := by decide +kernel
theorem dL_stateOf_2 : decode cL_stateOf 2 = .ok (.aload_n 0, 1) := by decide +kernel
theorem dL_stateOf_3 : decode cL_stateOf 3 = .ok (.iload_n 1, 1) := by decide +kernel
theorem dL_stateOf_4 : decode cL_stateOf 4 = .ok (.invokevirtual 52, 3) := by decide +kernel
theorem dL_stateOf_7 : decode cL_stateOf 7 = .ok (.i2l, 1) := by decide +kernel
theorem dL_stateOf_8 : decode cL_stateOf 8 = .ok (.lastore, 1) := by decide +kernel
theorem dL_stateOf_9 : decode cL_stateOf 9 = .ok (.goto 6, 3) := by decide +kernel
theorem dL_stateOf_12 : decode cL_stateOf 12 = .ok (.astore_n 3, 1) := by decide +kernel
theorem dL_stateOf_13 : decode cL_stateOf 13 = .ok (.iconst 1, 1) := by decide +kernel
theorem dL_stateOf_14 : decode cL_stateOf 14 = .ok (.ireturn, 1) := by decide +kernel
theorem dL_stateOf_15 : decode cL_stateOf 15 = .ok (.iconst 0, 1) := by decide +kernel
theorem dL_stateOf_16 : decode cL_stateOf 16 = .ok (.ireturn, 1) := by decide +kernel
theorem dL_toGo_0 : decode cL_toGo 0 = .ok (.aload_n 2, 1) := by decide +kernel
theorem dL_toGo_1 : decode cL_toGo 1 = .ok (.iconst 0, 1) := by decide +kernel
theorem dL_toGo_2 : decode cL_toGo 2 = .ok (.aload_n 0, 1) := by decide +kernel
theorem dL_toGo_3 : decode cL_toGo 3 = .ok (.iload_n 1, 1) := by decide +kernel
theorem dL_toGo_4 : decode cL_toGo 4 = .ok (.invokevirtual 56, 3) := by decide +kernel
theorem dL_toGo_7 : decode cL_toGo 7 = .ok (.i2l, 1) := by decide +kernel
theorem dL_toGo_8 : decode cL_toGo 8 = .ok (.lastore, 1) := by decide +kernel
theorem dL_toGo_9 : decode cL_toGo 9 = .ok (.goto 9, 3) := by decide +kernel
theorem dL_toGo_12 : decode cL_toGo 12 = .ok (.astore_n 3, 1) := by decide +kernel
theorem dL_toGo_13 : decode cL_toGo 13 = .ok (.iconst 1, 1) := by decide +kernel
theorem dL_toGo_14 : decode cL_toGo 14 = .ok (.ireturn, 1) := by decide +kernel
theorem dL_toGo_15 : decode cL_toGo 15 = .ok (.astore_n 3, 1) := by decide +kernel
theorem dL_toGo_16 : decode cL_toGo 16 = .ok (.iconst 2, 1) := by decide +kernel
theorem dL_toGo_17 : decode cL_toGo 17 = .ok (.ireturn, 1) := by decide +kernel
theorem dL_toGo_18 : decode cL_toGo 18 = .ok (.iconst 0, 1) := by decide +kernel
theorem dL_toGo_19 : decode cL_toGo 19 = .ok (.ireturn, 1) := by decide +kernel
theorem dL_stops_0 : decode cL_stops 0 = .ok (.aload_n 2, 1) := by decide +kernel
theorem dL_stops_1 : decode cL_stops 1 = .ok (.iconst 0, 1) := by decide +kernel
theorem dL_stops_2 : decode cL_stops 2 = .ok (.aload_n 0, 1) := by decide +kernel
theorem dL_stops_3 : decode cL_stops 3 = .ok (.iload_n 1, 1) := by decide +kernel
theorem dL_stops_4 : decode cL_stops 4 = .ok (.invokevirtual 59, 3) := by decide +kernel
theorem dL_stops_7 : decode cL_stops 7 = .ok (.i2l, 1) := by decide +kernel
theorem dL_stops_8 : decode cL_stops 8 = .ok (.lastore, 1) := by decide +kernel
theorem dL_stops_9 : decode cL_stops 9 = .ok (.goto 6, 3) := by decide +kernel
theorem dL_stops_12 : decode cL_stops 12 = .ok (.astore_n 3, 1) := by decide +kernel
theorem dL_stops_13 : decode cL_stops 13 = .ok (.iconst 1, 1) := by decide +kernel
theorem dL_stops_14 : decode cL_stops 14 = .ok (.ireturn, 1) := by decide +kernel
theorem dL_stops_15 : decode cL_stops 15 = .ok (.iconst 0, 1) := by decide +kernel
theorem dL_stops_16 : decode cL_stops 16 = .ok (.ireturn, 1) := by decide +kernel
theorem dL_firstOf_0 : decode cL_firstOf 0 = .ok (.aload_n 2, 1) := by decide +kernel
theorem dL_firstOf_1 : decode cL_firstOf 1 = .ok (.iconst 0, 1) := by decide +kernel
theorem dL_firstOf_2 : decode cL_firstOf 2 = .ok (.aload_n 0, 1) := by decide +kernel
theorem dL_firstOf_3 : decode cL_firstOf 3 = .ok (.iload_n 1, 1) := by decide +kernel
theorem dL_firstOf_4 : decode cL_firstOf 4 = .ok (.invokevirtual 62, 3) := by decide +kernel
theorem dL_firstOf_7 : decode cL_firstOf 7 = .ok (.i2l, 1) := by decide +kernel
theorem dL_firstOf_8 : decode cL_firstOf 8 = .ok (.lastore, 1) := by decide +kernel
theorem dL_firstOf_9 : decode cL_firstOf 9 = .ok (.goto 12, 3) := by decide +kernel
theorem dL_firstOf_12 : decode cL_firstOf 12 = .ok (.astore_n 3, 1) := by decide +kernel
theorem dL_firstOf_13 : decode cL_firstOf 13 = .ok (.iconst 1, 1) := by decide +kernel
theorem dL_firstOf_14 : decode cL_firstOf 14 = .ok (.ireturn, 1) := by decide +kernel
theorem dL_firstOf_15 : decode cL_firstOf 15 = .ok (.astore_n 3, 1) := by decide +kernel
theorem dL_firstOf_16 : decode cL_firstOf 16 = .ok (.iconst 2, 1) := by decide +kernel
theorem dL_firstOf_17 : decode cL_firstOf 17 = .ok (.ireturn, 1) := by decide +kernel
theorem dL_firstOf_18 : decode cL_firstOf 18 = .ok (.astore_n 3, 1) := by decide +kernel
theorem dL_firstOf_19 : decode cL_firstOf 19 = .ok (.iconst 3, 1) := by decide +kernel
theorem dL_firstOf_20 : decode cL_firstOf 20 = .ok (.ireturn, 1) := by decide +kernel
theorem dL_firstOf_21 : decode cL_firstOf 21 = .ok (.iconst 0, 1) := by decide +kernel
theorem dL_firstOf_22 : decode cL_firstOf 22 = .ok (.ireturn, 1) := by decide +kernel
theorem dL_inLine_0 : decode cL_inLine 0 = .ok (.aload_n 2, 1) := by decide +kernel
theorem dL_inLine_1 : decode cL_inLine 1 = .ok (.iconst 0, 1) := by decide +kernel
theorem dL_inLine_2 : decode cL_inLine 2 = .ok (.aload_n 0, 1) := by decide +kernel
theorem dL_inLine_3 : decode cL_inLine 3 = .ok (.iload_n 1, 1) := by decide +kernel
theorem dL_inLine_4 : decode cL_inLine 4 = .ok (.invokevirtual 65, 3) := by decide +kernel
theorem dL_inLine_7 : decode cL_inLine 7 = .ok (.i2l, 1) := by decide +kernel
theorem dL_inLine_8 : decode cL_inLine 8 = .ok (.lastore, 1) := by decide +kernel
theorem dL_inLine_9 : decode cL_inLine 9 = .ok (.goto 6, 3) := by decide +kernel
theorem dL_inLine_12 : decode cL_inLine 12 = .ok (.astore_n 3, 1) := by decide +kernel
theorem dL_inLine_13 : decode cL_inLine 13 = .ok (.iconst 1, 1) := by decide +kernel
theorem dL_inLine_14 : decode cL_inLine 14 = .ok (.ireturn, 1) := by decide +kernel
theorem dL_inLine_15 : decode cL_inLine 15 = .ok (.iconst 0, 1) := by decide +kernel
theorem dL_inLine_16 : decode cL_inLine 16 = .ok (.ireturn, 1) := by decide +kernel
theorem dL_reserve_0 : decode cL_reserve 0 = .ok (.aload 5, 2) := by decide +kernel
theorem dL_reserve_2 : decode cL_reserve 2 = .ok (.iconst 0, 1) := by decide +kernel
theorem dL_reserve_3 : decode cL_reserve 3 = .ok (.aload_n 0, 1) := by decide +kernel
theorem dL_reserve_4 : decode cL_reserve 4 = .ok (.iload_n 1, 1) := by decide +kernel
theorem dL_reserve_5 : decode cL_reserve 5 = .ok (.iload_n 2, 1) := by decide +kernel
theorem dL_reserve_6 : decode cL_reserve 6 = .ok (.iload_n 3, 1) := by decide +kernel
theorem dL_reserve_7 : decode cL_reserve 7 = .ok (.iload 4, 2) := by decide +kernel
theorem dL_reserve_9 : decode cL_reserve 9 = .ok (.invokevirtual 68, 3) := by decide +kernel
theorem dL_reserve_12 : decode cL_reserve 12 = .ok (.i2l, 1) := by decide +kernel
theorem dL_reserve_13 : decode cL_reserve 13 = .ok (.lastore, 1) := by decide +kernel
theorem dL_reserve_14 : decode cL_reserve 14 = .ok (.goto 19, 3) := by decide +kernel
theorem dL_reserve_17 : decode cL_reserve 17 = .ok (.astore 6, 2) := by decide +kernel
theorem dL_reserve_19 : decode cL_reserve 19 = .ok (.iconst 1, 1) := by decide +kernel
theorem dL_reserve_20 : decode cL_reserve 20 = .ok (.ireturn, 1) := by decide +kernel
theorem dL_reserve_21 : decode cL_reserve 21 = .ok (.astore 6, 2) := by decide +kernel
theorem dL_reserve_23 : decode cL_reserve 23 = .ok (.iconst 2, 1) := by decide +kernel
theorem dL_reserve_24 : decode cL_reserve 24 = .ok (.ireturn, 1) := by decide +kernel
theorem dL_reserve_25 : decode cL_reserve 25 = .ok (.astore 6, 2) := by decide +kernel
theorem dL_reserve_27 : decode cL_reserve 27 = .ok (.iconst 3, 1) := by decide +kernel
theorem dL_reserve_28 : decode cL_reserve 28 = .ok (.ireturn, 1) := by decide +kernel
theorem dL_reserve_29 : decode cL_reserve 29 = .ok (.astore 6, 2) := by decide +kernel
theorem dL_reserve_31 : decode cL_reserve 31 = .ok (.iconst 4, 1) := by decide +kernel
theorem dL_reserve_32 : decode cL_reserve 32 = .ok (.ireturn, 1) := by decide +kernel
theorem dL_reserve_33 : decode cL_reserve 33 = .ok (.iconst 0, 1) := by decide +kernel
theorem dL_reserve_34 : decode cL_reserve 34 = .ok (.ireturn, 1) := by decide +kernel
theorem dL_drop_0 : decode cL_drop 0 = .ok (.aload 4, 2) := by decide +kernel
theorem dL_drop_2 : decode cL_drop 2 = .ok (.iconst 0, 1) := by decide +kernel
theorem dL_drop_3 : decode cL_drop 3 = .ok (.aload_n 0, 1) := by decide +kernel
theorem dL_drop_4 : decode cL_drop 4 = .ok (.iload_n 1, 1) := by decide +kernel
theorem dL_drop_5 : decode cL_drop 5 = .ok (.iload_n 2, 1) := by decide +kernel
theorem dL_drop_6 : decode cL_drop 6 = .ok (.iload_n 3, 1) := by decide +kernel
theorem dL_drop_7 : decode cL_drop 7 = .ok (.invokevirtual 72, 3) := by decide +kernel
theorem dL_drop_10 : decode cL_drop 10 = .ok (.i2l, 1) := by decide +kernel
theorem dL_drop_11 : decode cL_drop 11 = .ok (.lastore, 1) := by decide +kernel
theorem dL_drop_12 : decode cL_drop 12 = .ok (.goto 7, 3) := by decide +kernel
theorem dL_drop_15 : decode cL_drop 15 = .ok (.astore 5, 2) := by decide +kernel
theorem dL_drop_17 : decode cL_drop 17 = .ok (.iconst 1, 1) := by decide +kernel
theorem dL_drop_18 : decode cL_drop 18 = .ok (.ireturn, 1) := by decide +kernel
theorem dL_drop_19 : decode cL_drop 19 = .ok (.iconst 0, 1) := by decide +kernel
theorem dL_drop_20 : decode cL_drop 20 = .ok (.ireturn, 1) := by decide +kernel
theorem dL_reserved_0 : decode cL_reserved 0 = .ok (.aload_n 2, 1) := by decide +kernel
theorem dL_reserved_1 : decode cL_reserved 1 = .ok (.iconst 0, 1) := by decide +kernel
theorem dL_reserved_2 : decode cL_reserved 2 = .ok (.aload_n 0, 1) := by decide +kernel
theorem dL_reserved_3 : decode cL_reserved 3 = .ok (.iload_n 1, 1) := by decide +kernel
theorem dL_reserved_4 : decode cL_reserved 4 = .ok (.invokevirtual 75, 3) := by decide +kernel
theorem dL_reserved_7 : decode cL_reserved 7 = .ok (.i2l, 1) := by decide +kernel
theorem dL_reserved_8 : decode cL_reserved 8 = .ok (.lastore, 1) := by decide +kernel
theorem dL_reserved_9 : decode cL_reserved 9 = .ok (.goto 9, 3) := by decide +kernel
theorem dL_reserved_12 : decode cL_reserved 12 = .ok (.astore_n 3, 1) := by decide +kernel
theorem dL_reserved_13 : decode cL_reserved 13 = .ok (.iconst 1, 1) := by decide +kernel
theorem dL_reserved_14 : decode cL_reserved 14 = .ok (.ireturn, 1) := by decide +kernel
theorem dL_reserved_15 : decode cL_reserved 15 = .ok (.astore_n 3, 1) := by decide +kernel
theorem dL_reserved_16 : decode cL_reserved 16 = .ok (.iconst 2, 1) := by decide +kernel
theorem dL_reserved_17 : decode cL_reserved 17 = .ok (.ireturn, 1) := by decide +kernel
theorem dL_reserved_18 : decode cL_reserved 18 = .ok (.iconst 0, 1) := by decide +kernel
theorem dL_reserved_19 : decode cL_reserved 19 = .ok (.ireturn, 1) := by decide +kernel
theorem dL_running_0 : decode cL_running 0 = .ok (.aload_n 2, 1) := by decide +kernel
theorem dL_running_1 : decode cL_running 1 = .ok (.iconst 0, 1) := by decide +kernel
theorem dL_running_2 : decode cL_running 2 = .ok (.aload_n 0, 1) := by decide +kernel
theorem dL_running_3 : decode cL_running 3 = .ok (.iload_n 1, 1) := by decide +kernel
theorem dL_running_4 : decode cL_running 4 = .ok (.invokevirtual 78, 3) := by decide +kernel
theorem dL_running_7 : decode cL_running 7 = .ok (.i2l, 1) := by decide +kernel
theorem dL_running_8 : decode cL_running 8 = .ok (.lastore, 1) := by decide +kernel
theorem dL_running_9 : decode cL_running 9 = .ok (.goto 6, 3) := by decide +kernel
theorem dL_running_12 : decode cL_running 12 = .ok (.astore_n 3, 1) := by decide +kernel
theorem dL_running_13 : decode cL_running 13 = .ok (.iconst 1, 1) := by decide +kernel
theorem dL_running_14 : decode cL_running 14 = .ok (.ireturn, 1) := by decide +kernel
theorem dL_running_15 : decode cL_running 15 = .ok (.iconst 0, 1) := by decide +kernel
theorem dL_running_16 : decode cL_running 16 = .ok (.ireturn, 1) := by decide +kernel
theorem dL_demand_0 : decode cL_demand 0 = .ok (.aload_n 2, 1) := by decide +kernel
theorem dL_demand_1 : decode cL_demand 1 = .ok (.iconst 0, 1) := by decide +kernel
theorem dL_demand_2 : decode cL_demand 2 = .ok (.aload_n 0, 1) := by decide +kernel
theorem dL_demand_3 : decode cL_demand 3 = .ok (.iload_n 1, 1) := by decide +kernel
theorem dL_demand_4 : decode cL_demand 4 = .ok (.invokevirtual 81, 3) := by decide +kernel
theorem dL_demand_7 : decode cL_demand 7 = .ok (.i2l, 1) := by decide +kernel
theorem dL_demand_8 : decode cL_demand 8 = .ok (.lastore, 1) := by decide +kernel
theorem dL_demand_9 : decode cL_demand 9 = .ok (.goto 6, 3) := by decide +kernel
theorem dL_demand_12 : decode cL_demand 12 = .ok (.astore_n 3, 1) := by decide +kernel
theorem dL_demand_13 : decode cL_demand 13 = .ok (.iconst 1, 1) := by decide +kernel
theorem dL_demand_14 : decode cL_demand 14 = .ok (.ireturn, 1) := by decide +kernel
theorem dL_demand_15 : decode cL_demand 15 = .ok (.iconst 0, 1) := by decide +kernel
theorem dL_demand_16 : decode cL_demand 16 = .ok (.ireturn, 1) := by decide +kernel
theorem dL_share_0 : decode cL_share 0 = .ok (.aload_n 2, 1) := by decide +kernel
theorem dL_share_1 : decode cL_share 1 = .ok (.iconst 0, 1) := by decide +kernel
theorem dL_share_2 : decode cL_share 2 = .ok (.aload_n 0, 1) := by decide +kernel
theorem dL_share_3 : decode cL_share 3 = .ok (.iload_n 1, 1) := by decide +kernel
theorem dL_share_4 : decode cL_share 4 = .ok (.invokevirtual 84, 3) := by decide +kernel
theorem dL_share_7 : decode cL_share 7 = .ok (.i2l, 1) := by decide +kernel
theorem dL_share_8 : decode cL_share 8 = .ok (.lastore, 1) := by decide +kernel
theorem dL_share_9 : decode cL_share 9 = .ok (.goto 6, 3) := by decide +kernel
theorem dL_share_12 : decode cL_share 12 = .ok (.astore_n 3, 1) := by decide +kernel
theorem dL_share_13 : decode cL_share 13 = .ok (.iconst 1, 1) := by decide +kernel
theorem dL_share_14 : decode cL_share 14 = .ok (.ireturn, 1) := by decide +kernel
theorem dL_share_15 : decode cL_share 15 = .ok (.iconst 0, 1) := by decide +kernel
theorem dL_share_16 : decode cL_share 16 = .ok (.ireturn, 1) := by decide +kernel
theorem dL_shareByLevels_0 : decode cL_shareByLevels 0 = .ok (.aload_n 2, 1) := by decide +kernel
theorem dL_shareByLevels_1 : decode cL_shareByLevels 1 = .ok (.iconst 0, 1) := by decide +kernel
theorem dL_shareByLevels_2 : decode cL_shareByLevels 2 = .ok (.aload_n 0, 1) := by decide +kernel
theorem dL_shareByLevels_3 : decode cL_shareByLevels 3 = .ok (.iload_n 1, 1) := by decide +kernel
theorem dL_shareByLevels_4 : decode cL_shareByLevels 4 = .ok (.invokevirtual 87, 3) := by decide +kernel
theorem dL_shareByLevels_7 : decode cL_shareByLevels 7 = .ok (.i2l, 1) := by decide +kernel
theorem dL_shareByLevels_8 : decode cL_shareByLevels 8 = .ok (.lastore, 1) := by decide +kernel
theorem dL_shareByLevels_9 : decode cL_shareByLevels 9 = .ok (.goto 6, 3) := by decide +kernel
theorem dL_shareByLevels_12 : decode cL_shareByLevels 12 = .ok (.astore_n 3, 1) := by decide +kernel
theorem dL_shareByLevels_13 : decode cL_shareByLevels 13 = .ok (.iconst 1, 1) := by decide +kernel
theorem dL_shareByLevels_14 : decode cL_shareByLevels 14 = .ok (.ireturn, 1) := by decide +kernel
theorem dL_shareByLevels_15 : decode cL_shareByLevels 15 = .ok (.iconst 0, 1) := by decide +kernel
theorem dL_shareByLevels_16 : decode cL_shareByLevels 16 = .ok (.ireturn, 1) := by decide +kernel
theorem dL_due_0 : decode cL_due 0 = .ok (.aload_n 2, 1) := by decide +kernel
theorem dL_due_1 : decode cL_due 1 = .ok (.iconst 0, 1) := by decide +kernel
theorem dL_due_2 : decode cL_due 2 = .ok (.aload_n 0, 1) := by decide +kernel
theorem dL_due_3 : decode cL_due 3 = .ok (.iload_n 1, 1) := by decide +kernel
theorem dL_due_4 : decode cL_due 4 = .ok (.invokevirtual 90, 3) := by decide +kernel
theorem dL_due_7 : decode cL_due 7 = .ok (.i2l, 1) := by decide +kernel
theorem dL_due_8 : decode cL_due 8 = .ok (.lastore, 1) := by decide +kernel
theorem dL_due_9 : decode cL_due 9 = .ok (.goto 9, 3) := by decide +kernel
theorem dL_due_12 : decode cL_due 12 = .ok (.astore_n 3, 1) := by decide +kernel
theorem dL_due_13 : decode cL_due 13 = .ok (.iconst 1, 1) := by decide +kernel
theorem dL_due_14 : decode cL_due 14 = .ok (.ireturn, 1) := by decide +kernel
theorem dL_due_15 : decode cL_due 15 = .ok (.astore_n 3, 1) := by decide +kernel
theorem dL_due_16 : decode cL_due 16 = .ok (.iconst 2, 1) := by decide +kernel
theorem dL_due_17 : decode cL_due 17 = .ok (.ireturn, 1) := by decide +kernel
theorem dL_due_18 : decode cL_due 18 = .ok (.iconst 0, 1) := by decide +kernel
theorem dL_due_19 : decode cL_due 19 = .ok (.ireturn, 1) := by decide +kernel
theorem dL_freeFor_0 : decode cL_freeFor 0 = .ok (.aload_n 2, 1) := by decide +kernel
theorem dL_freeFor_1 : decode cL_freeFor 1 = .ok (.iconst 0, 1) := by decide +kernel
theorem dL_freeFor_2 : decode cL_freeFor 2 = .ok (.aload_n 0, 1) := by decide +kernel
theorem dL_freeFor_3 : decode cL_freeFor 3 = .ok (.iload_n 1, 1) := by decide +kernel
theorem dL_freeFor_4 : decode cL_freeFor 4 = .ok (.invokevirtual 93, 3) := by decide +kernel
theorem dL_freeFor_7 : decode cL_freeFor 7 = .ok (.i2l, 1) := by decide +kernel
theorem dL_freeFor_8 : decode cL_freeFor 8 = .ok (.lastore, 1) := by decide +kernel
theorem dL_freeFor_9 : decode cL_freeFor 9 = .ok (.goto 9, 3) := by decide +kernel
theorem dL_freeFor_12 : decode cL_freeFor 12 = .ok (.astore_n 3, 1) := by decide +kernel
theorem dL_freeFor_13 : decode cL_freeFor 13 = .ok (.iconst 1, 1) := by decide +kernel
theorem dL_freeFor_14 : decode cL_freeFor 14 = .ok (.ireturn, 1) := by decide +kernel
theorem dL_freeFor_15 : decode cL_freeFor 15 = .ok (.astore_n 3, 1) := by decide +kernel
theorem dL_freeFor_16 : decode cL_freeFor 16 = .ok (.iconst 2, 1) := by decide +kernel
theorem dL_freeFor_17 : decode cL_freeFor 17 = .ok (.ireturn, 1) := by decide +kernel
theorem dL_freeFor_18 : decode cL_freeFor 18 = .ok (.iconst 0, 1) := by decide +kernel
theorem dL_freeFor_19 : decode cL_freeFor 19 = .ok (.ireturn, 1) := by decide +kernel
theorem dL_use_0 : decode cL_use 0 = .ok (.aload_n 2, 1) := by decide +kernel
theorem dL_use_1 : decode cL_use 1 = .ok (.iconst 0, 1) := by decide +kernel
theorem dL_use_2 : decode cL_use 2 = .ok (.aload_n 0, 1) := by decide +kernel
theorem dL_use_3 : decode cL_use 3 = .ok (.iload_n 1, 1) := by decide +kernel
theorem dL_use_4 : decode cL_use 4 = .ok (.invokevirtual 96, 3) := by decide +kernel
theorem dL_use_7 : decode cL_use 7 = .ok (.lastore, 1) := by decide +kernel
theorem dL_use_8 : decode cL_use 8 = .ok (.goto 9, 3) := by decide +kernel
theorem dL_use_11 : decode cL_use 11 = .ok (.astore_n 3, 1) := by decide +kernel
theorem dL_use_12 : decode cL_use 12 = .ok (.iconst 1, 1) := by decide +kernel
theorem dL_use_13 : decode cL_use 13 = .ok (.ireturn, 1) := by decide +kernel
theorem dL_use_14 : decode cL_use 14 = .ok (.astore_n 3, 1) := by decide +kernel
theorem dL_use_15 : decode cL_use 15 = .ok (.iconst 2, 1) := by decide +kernel
theorem dL_use_16 : decode cL_use 16 = .ok (.ireturn, 1) := by decide +kernel
theorem dL_use_17 : decode cL_use 17 = .ok (.iconst 0, 1) := by decide +kernel
theorem dL_use_18 : decode cL_use 18 = .ok (.ireturn, 1) := by decide +kernel
theorem dL_usedShare_0 : decode cL_usedShare 0 = .ok (.aload_n 1, 1) := by decide +kernel
theorem dL_usedShare_1 : decode cL_usedShare 1 = .ok (.iconst 0, 1) := by decide +kernel
theorem dL_usedShare_2 : decode cL_usedShare 2 = .ok (.aload_n 0, 1) := by decide +kernel
theorem dL_usedShare_3 : decode cL_usedShare 3 = .ok (.invokevirtual 100, 3) := by decide +kernel
theorem dL_usedShare_6 : decode cL_usedShare 6 = .ok (.f2d, 1) := by decide +kernel
theorem dL_usedShare_7 : decode cL_usedShare 7 = .ok (.dastore, 1) := by decide +kernel
theorem dL_usedShare_8 : decode cL_usedShare 8 = .ok (.goto 6, 3) := by decide +kernel
theorem dL_usedShare_11 : decode cL_usedShare 11 = .ok (.astore_n 2, 1) := by decide +kernel
theorem dL_usedShare_12 : decode cL_usedShare 12 = .ok (.iconst 1, 1) := by decide +kernel
theorem dL_usedShare_13 : decode cL_usedShare 13 = .ok (.ireturn, 1) := by decide +kernel
theorem dL_usedShare_14 : decode cL_usedShare 14 = .ok (.iconst 0, 1) := by decide +kernel
theorem dL_usedShare_15 : decode cL_usedShare 15 = .ok (.ireturn, 1) := by decide +kernel
theorem dL_meanStops_0 : decode cL_meanStops 0 = .ok (.aload_n 1, 1) := by decide +kernel
theorem dL_meanStops_1 : decode cL_meanStops 1 = .ok (.iconst 0, 1) := by decide +kernel
theorem dL_meanStops_2 : decode cL_meanStops 2 = .ok (.aload_n 0, 1) := by decide +kernel
theorem dL_meanStops_3 : decode cL_meanStops 3 = .ok (.invokevirtual 106, 3) := by decide +kernel
theorem dL_meanStops_6 : decode cL_meanStops 6 = .ok (.dastore, 1) := by decide +kernel
theorem dL_meanStops_7 : decode cL_meanStops 7 = .ok (.goto 6, 3) := by decide +kernel
theorem dL_meanStops_10 : decode cL_meanStops 10 = .ok (.astore_n 2, 1) := by decide +kernel
theorem dL_meanStops_11 : decode cL_meanStops 11 = .ok (.iconst 1, 1) := by decide +kernel
theorem dL_meanStops_12 : decode cL_meanStops 12 = .ok (.ireturn, 1) := by decide +kernel
theorem dL_meanStops_13 : decode cL_meanStops 13 = .ok (.iconst 0, 1) := by decide +kernel
theorem dL_meanStops_14 : decode cL_meanStops 14 = .ok (.ireturn, 1) := by decide +kernel
theorem dL_law_0 : decode cL_law 0 = .ok (.new 8, 3) := by decide +kernel
theorem dL_law_3 : decode cL_law 3 = .ok (.dup, 1) := by decide +kernel
theorem dL_law_4 : decode cL_law 4 = .ok (.invokespecial 110, 3) := by decide +kernel
theorem dL_law_7 : decode cL_law 7 = .ok (.astore_n 1, 1) := by decide +kernel
theorem dL_law_8 : decode cL_law 8 = .ok (.new 111, 3) := by decide +kernel
theorem dL_law_11 : decode cL_law 11 = .ok (.dup, 1) := by decide +kernel
theorem dL_law_12 : decode cL_law 12 = .ok (.invokespecial 113, 3) := by decide +kernel
theorem dL_law_15 : decode cL_law 15 = .ok (.astore_n 2, 1) := by decide +kernel
theorem dL_law_16 : decode cL_law 16 = .ok (.iconst 1, 1) := by decide +kernel
theorem dL_law_17 : decode cL_law 17 = .ok (.newarray .long, 2) := by decide +kernel
theorem dL_law_19 : decode cL_law 19 = .ok (.astore_n 3, 1) := by decide +kernel
theorem dL_law_20 : decode cL_law 20 = .ok (.iconst 1, 1) := by decide +kernel
theorem dL_law_21 : decode cL_law 21 = .ok (.newarray .double, 2) := by decide +kernel
theorem dL_law_23 : decode cL_law 23 = .ok (.astore 4, 2) := by decide +kernel
theorem dL_law_25 : decode cL_law 25 = .ok (.iconst 0, 1) := by decide +kernel
theorem dL_law_26 : decode cL_law 26 = .ok (.istore 5, 2) := by decide +kernel
theorem dL_law_28 : decode cL_law 28 = .ok (.iload 5, 2) := by decide +kernel
theorem dL_law_30 : decode cL_law 30 = .ok (.aload_n 0, 1) := by decide +kernel
theorem dL_law_31 : decode cL_law 31 = .ok (.arraylength, 1) := by decide +kernel
theorem dL_law_32 : decode cL_law 32 = .ok (.iconst 5, 1) := by decide +kernel
theorem dL_law_33 : decode cL_law 33 = .ok (.isub, 1) := by decide +kernel
theorem dL_law_34 : decode cL_law 34 = .ok (.if_icmp .gt 1858, 3) := by decide +kernel
theorem dL_law_37 : decode cL_law 37 = .ok (.aload_n 0, 1) := by decide +kernel
theorem dL_law_38 : decode cL_law 38 = .ok (.iload 5, 2) := by decide +kernel
theorem dL_law_40 : decode cL_law 40 = .ok (.iaload, 1) := by decide +kernel
theorem dL_law_41 : decode cL_law 41 = .ok (.bipush 31, 2) := by decide +kernel
theorem dL_law_43 : decode cL_law 43 = .ok (.iand, 1) := by decide +kernel
theorem dL_law_44 : decode cL_law 44 = .ok (.tableswitch 1842 0 30 #[140, 208, 276, 344, 400, 456, 469, 525, 581, 661, 717, 773, 786, 799, 855, 911, 967, 1023, 1079, 1171, 1251, 1307, 1363, 1419, 1475, 1531, 1587, 1643, 1698, 1764, 1829], 140) := by decide +kernel
theorem dL_law_184 : decode cL_law 184 = .ok (.aload_n 1, 1) := by decide +kernel
theorem dL_law_185 : decode cL_law 185 = .ok (.aload_n 0, 1) := by decide +kernel
theorem dL_law_186 : decode cL_law 186 = .ok (.iload 5, 2) := by decide +kernel
theorem dL_law_188 : decode cL_law 188 = .ok (.iconst 1, 1) := by decide +kernel
theorem dL_law_189 : decode cL_law 189 = .ok (.iadd, 1) := by decide +kernel
theorem dL_law_190 : decode cL_law 190 = .ok (.iaload, 1) := by decide +kernel
theorem dL_law_191 : decode cL_law 191 = .ok (.aload_n 0, 1) := by decide +kernel
theorem dL_law_192 : decode cL_law 192 = .ok (.iload 5, 2) := by decide +kernel
theorem dL_law_194 : decode cL_law 194 = .ok (.iconst 2, 1) := by decide +kernel
theorem dL_law_195 : decode cL_law 195 = .ok (.iadd, 1) := by decide +kernel
theorem dL_law_196 : decode cL_law 196 = .ok (.iaload, 1) := by decide +kernel
theorem dL_law_197 : decode cL_law 197 = .ok (.aload_n 3, 1) := by decide +kernel
theorem dL_law_198 : decode cL_law 198 = .ok (.invokestatic 114, 3) := by decide +kernel
theorem dL_law_201 : decode cL_law 201 = .ok (.istore 6, 2) := by decide +kernel
theorem dL_law_203 : decode cL_law 203 = .ok (.aload_n 2, 1) := by decide +kernel
theorem dL_law_204 : decode cL_law 204 = .ok (.aload_n 0, 1) := by decide +kernel
theorem dL_law_205 : decode cL_law 205 = .ok (.iload 5, 2) := by decide +kernel
theorem dL_law_207 : decode cL_law 207 = .ok (.iconst 1, 1) := by decide +kernel
theorem dL_law_208 : decode cL_law 208 = .ok (.iadd, 1) := by decide +kernel
theorem dL_law_209 : decode cL_law 209 = .ok (.iaload, 1) := by decide +kernel
theorem dL_law_210 : decode cL_law 210 = .ok (.aload_n 0, 1) := by decide +kernel
theorem dL_law_211 : decode cL_law 211 = .ok (.iload 5, 2) := by decide +kernel
theorem dL_law_213 : decode cL_law 213 = .ok (.iconst 2, 1) := by decide +kernel
theorem dL_law_214 : decode cL_law 214 = .ok (.iadd, 1) := by decide +kernel
theorem dL_law_215 : decode cL_law 215 = .ok (.iaload, 1) := by decide +kernel
theorem dL_law_216 : decode cL_law 216 = .ok (.invokevirtual 119, 3) := by decide +kernel
theorem dL_law_219 : decode cL_law 219 = .ok (.istore 7, 2) := by decide +kernel
theorem dL_law_221 : decode cL_law 221 = .ok (.aload_n 2, 1) := by decide +kernel
theorem dL_law_222 : decode cL_law 222 = .ok (.invokevirtual 120, 3) := by decide +kernel
theorem dL_law_225 : decode cL_law 225 = .ok (.iload 6, 2) := by decide +kernel
theorem dL_law_227 : decode cL_law 227 = .ok (.if_icmp .eq 5, 3) := by decide +kernel
theorem dL_law_230 : decode cL_law 230 = .ok (.iconst 0, 1) := by decide +kernel
theorem dL_law_231 : decode cL_law 231 = .ok (.ireturn, 1) := by decide +kernel
theorem dL_law_232 : decode cL_law 232 = .ok (.iload 6, 2) := by decide +kernel
theorem dL_law_234 : decode cL_law 234 = .ok (.ifCond .ne 15, 3) := by decide +kernel
theorem dL_law_237 : decode cL_law 237 = .ok (.aload_n 3, 1) := by decide +kernel
theorem dL_law_238 : decode cL_law 238 = .ok (.iconst 0, 1) := by decide +kernel
theorem dL_law_239 : decode cL_law 239 = .ok (.laload, 1) := by decide +kernel
theorem dL_law_240 : decode cL_law 240 = .ok (.iload 7, 2) := by decide +kernel
theorem dL_law_242 : decode cL_law 242 = .ok (.i2l, 1) := by decide +kernel
theorem dL_law_243 : decode cL_law 243 = .ok (.lcmp, 1) := by decide +kernel
theorem dL_law_244 : decode cL_law 244 = .ok (.ifCond .eq 5, 3) := by decide +kernel
theorem dL_law_247 : decode cL_law 247 = .ok (.iconst 0, 1) := by decide +kernel
theorem dL_law_248 : decode cL_law 248 = .ok (.ireturn, 1) := by decide +kernel
theorem dL_law_249 : decode cL_law 249 = .ok (.goto 1637, 3) := by decide +kernel
theorem dL_law_252 : decode cL_law 252 = .ok (.aload_n 1, 1) := by decide +kernel
theorem dL_law_253 : decode cL_law 253 = .ok (.aload_n 0, 1) := by decide +kernel
theorem dL_law_254 : decode cL_law 254 = .ok (.iload 5, 2) := by decide +kernel
theorem dL_law_256 : decode cL_law 256 = .ok (.iconst 1, 1) := by decide +kernel
theorem dL_law_257 : decode cL_law 257 = .ok (.iadd, 1) := by decide +kernel
theorem dL_law_258 : decode cL_law 258 = .ok (.iaload, 1) := by decide +kernel
theorem dL_law_259 : decode cL_law 259 = .ok (.aload_n 0, 1) := by decide +kernel
theorem dL_law_260 : decode cL_law 260 = .ok (.iload 5, 2) := by decide +kernel
theorem dL_law_262 : decode cL_law 262 = .ok (.iconst 2, 1) := by decide +kernel
theorem dL_law_263 : decode cL_law 263 = .ok (.iadd, 1) := by decide +kernel
theorem dL_law_264 : decode cL_law 264 = .ok (.iaload, 1) := by decide +kernel
theorem dL_law_265 : decode cL_law 265 = .ok (.aload_n 3, 1) := by decide +kernel
theorem dL_law_266 : decode cL_law 266 = .ok (.invokestatic 124, 3) := by decide +kernel
theorem dL_law_269 : decode cL_law 269 = .ok (.istore 6, 2) := by decide +kernel
theorem dL_law_271 : decode cL_law 271 = .ok (.aload_n 2, 1) := by decide +kernel
theorem dL_law_272 : decode cL_law 272 = .ok (.aload_n 0, 1) := by decide +kernel
theorem dL_law_273 : decode cL_law 273 = .ok (.iload 5, 2) := by decide +kernel
theorem dL_law_275 : decode cL_law 275 = .ok (.iconst 1, 1) := by decide +kernel
theorem dL_law_276 : decode cL_law 276 = .ok (.iadd, 1) := by decide +kernel
theorem dL_law_277 : decode cL_law 277 = .ok (.iaload, 1) := by decide +kernel
theorem dL_law_278 : decode cL_law 278 = .ok (.aload_n 0, 1) := by decide +kernel
theorem dL_law_279 : decode cL_law 279 = .ok (.iload 5, 2) := by decide +kernel
theorem dL_law_281 : decode cL_law 281 = .ok (.iconst 2, 1) := by decide +kernel
theorem dL_law_282 : decode cL_law 282 = .ok (.iadd, 1) := by decide +kernel
theorem dL_law_283 : decode cL_law 283 = .ok (.iaload, 1) := by decide +kernel
theorem dL_law_284 : decode cL_law 284 = .ok (.invokevirtual 126, 3) := by decide +kernel
theorem dL_law_287 : decode cL_law 287 = .ok (.istore 7, 2) := by decide +kernel
theorem dL_law_289 : decode cL_law 289 = .ok (.aload_n 2, 1) := by decide +kernel
theorem dL_law_290 : decode cL_law 290 = .ok (.invokevirtual 120, 3) := by decide +kernel
theorem dL_law_293 : decode cL_law 293 = .ok (.iload 6, 2) := by decide +kernel
theorem dL_law_295 : decode cL_law 295 = .ok (.if_icmp .eq 5, 3) := by decide +kernel
theorem dL_law_298 : decode cL_law 298 = .ok (.iconst 0, 1) := by decide +kernel
theorem dL_law_299 : decode cL_law 299 = .ok (.ireturn, 1) := by decide +kernel
theorem dL_law_300 : decode cL_law 300 = .ok (.iload 6, 2) := by decide +kernel
theorem dL_law_302 : decode cL_law 302 = .ok (.ifCond .ne 15, 3) := by decide +kernel
theorem dL_law_305 : decode cL_law 305 = .ok (.aload_n 3, 1) := by decide +kernel
theorem dL_law_306 : decode cL_law 306 = .ok (.iconst 0, 1) := by decide +kernel
theorem dL_law_307 : decode cL_law 307 = .ok (.laload, 1) := by decide +kernel
theorem dL_law_308 : decode cL_law 308 = .ok (.iload 7, 2) := by decide +kernel
theorem dL_law_310 : decode cL_law 310 = .ok (.i2l, 1) := by decide +kernel
theorem dL_law_311 : decode cL_law 311 = .ok (.lcmp, 1) := by decide +kernel
theorem dL_law_312 : decode cL_law 312 = .ok (.ifCond .eq 5, 3) := by decide +kernel
theorem dL_law_315 : decode cL_law 315 = .ok (.iconst 0, 1) := by decide +kernel
theorem dL_law_316 : decode cL_law 316 = .ok (.ireturn, 1) := by decide +kernel
theorem dL_law_317 : decode cL_law 317 = .ok (.goto 1569, 3) := by decide +kernel
theorem dL_law_320 : decode cL_law 320 = .ok (.aload_n 1, 1) := by decide +kernel
theorem dL_law_321 : decode cL_law 321 = .ok (.aload_n 0, 1) := by decide +kernel
theorem dL_law_322 : decode cL_law 322 = .ok (.iload 5, 2) := by decide +kernel
theorem dL_law_324 : decode cL_law 324 = .ok (.iconst 1, 1) := by decide +kernel
theorem dL_law_325 : decode cL_law 325 = .ok (.iadd, 1) := by decide +kernel
theorem dL_law_326 : decode cL_law 326 = .ok (.iaload, 1) := by decide +kernel
theorem dL_law_327 : decode cL_law 327 = .ok (.aload_n 0, 1) := by decide +kernel
theorem dL_law_328 : decode cL_law 328 = .ok (.iload 5, 2) := by decide +kernel
theorem dL_law_330 : decode cL_law 330 = .ok (.iconst 2, 1) := by decide +kernel
theorem dL_law_331 : decode cL_law 331 = .ok (.iadd, 1) := by decide +kernel
theorem dL_law_332 : decode cL_law 332 = .ok (.iaload, 1) := by decide +kernel
theorem dL_law_333 : decode cL_law 333 = .ok (.aload_n 3, 1) := by decide +kernel
theorem dL_law_334 : decode cL_law 334 = .ok (.invokestatic 127, 3) := by decide +kernel
theorem dL_law_337 : decode cL_law 337 = .ok (.istore 6, 2) := by decide +kernel
theorem dL_law_339 : decode cL_law 339 = .ok (.aload_n 2, 1) := by decide +kernel
theorem dL_law_340 : decode cL_law 340 = .ok (.aload_n 0, 1) := by decide +kernel
theorem dL_law_341 : decode cL_law 341 = .ok (.iload 5, 2) := by decide +kernel
theorem dL_law_343 : decode cL_law 343 = .ok (.iconst 1, 1) := by decide +kernel
theorem dL_law_344 : decode cL_law 344 = .ok (.iadd, 1) := by decide +kernel
theorem dL_law_345 : decode cL_law 345 = .ok (.iaload, 1) := by decide +kernel
theorem dL_law_346 : decode cL_law 346 = .ok (.aload_n 0, 1) := by decide +kernel
theorem dL_law_347 : decode cL_law 347 = .ok (.iload 5, 2) := by decide +kernel
theorem dL_law_349 : decode cL_law 349 = .ok (.iconst 2, 1) := by decide +kernel
theorem dL_law_350 : decode cL_law 350 = .ok (.iadd, 1) := by decide +kernel
theorem dL_law_351 : decode cL_law 351 = .ok (.iaload, 1) := by decide +kernel
theorem dL_law_352 : decode cL_law 352 = .ok (.invokevirtual 129, 3) := by decide +kernel
theorem dL_law_355 : decode cL_law 355 = .ok (.istore 7, 2) := by decide +kernel
theorem dL_law_357 : decode cL_law 357 = .ok (.aload_n 2, 1) := by decide +kernel
theorem dL_law_358 : decode cL_law 358 = .ok (.invokevirtual 120, 3) := by decide +kernel
theorem dL_law_361 : decode cL_law 361 = .ok (.iload 6, 2) := by decide +kernel
theorem dL_law_363 : decode cL_law 363 = .ok (.if_icmp .eq 5, 3) := by decide +kernel
theorem dL_law_366 : decode cL_law 366 = .ok (.iconst 0, 1) := by decide +kernel
theorem dL_law_367 : decode cL_law 367 = .ok (.ireturn, 1) := by decide +kernel
theorem dL_law_368 : decode cL_law 368 = .ok (.iload 6, 2) := by decide +kernel
theorem dL_law_370 : decode cL_law 370 = .ok (.ifCond .ne 15, 3) := by decide +kernel
theorem dL_law_373 : decode cL_law 373 = .ok (.aload_n 3, 1) := by decide +kernel
theorem dL_law_374 : decode cL_law 374 = .ok (.iconst 0, 1) := by decide +kernel
theorem dL_law_375 : decode cL_law 375 = .ok (.laload, 1) := by decide +kernel
theorem dL_law_376 : decode cL_law 376 = .ok (.iload 7, 2) := by decide +kernel
theorem dL_law_378 : decode cL_law 378 = .ok (.i2l, 1) := by decide +kernel
theorem dL_law_379 : decode cL_law 379 = .ok (.lcmp, 1) := by decide +kernel
theorem dL_law_380 : decode cL_law 380 = .ok (.ifCond .eq 5, 3) := by decide +kernel
theorem dL_law_383 : decode cL_law 383 = .ok (.iconst 0, 1) := by decide +kernel
theorem dL_law_384 : decode cL_law 384 = .ok (.ireturn, 1) := by decide +kernel
theorem dL_law_385 : decode cL_law 385 = .ok (.goto 1501, 3) := by decide +kernel
theorem dL_law_388 : decode cL_law 388 = .ok (.aload_n 1, 1) := by decide +kernel
theorem dL_law_389 : decode cL_law 389 = .ok (.aload_n 0, 1) := by decide +kernel
theorem dL_law_390 : decode cL_law 390 = .ok (.iload 5, 2) := by decide +kernel
theorem dL_law_392 : decode cL_law 392 = .ok (.iconst 1, 1) := by decide +kernel
theorem dL_law_393 : decode cL_law 393 = .ok (.iadd, 1) := by decide +kernel
theorem dL_law_394 : decode cL_law 394 = .ok (.iaload, 1) := by decide +kernel
theorem dL_law_395 : decode cL_law 395 = .ok (.aload_n 3, 1) := by decide +kernel
theorem dL_law_396 : decode cL_law 396 = .ok (.invokestatic 130, 3) := by decide +kernel
theorem dL_law_399 : decode cL_law 399 = .ok (.istore 6, 2) := by decide +kernel
theorem dL_law_401 : decode cL_law 401 = .ok (.aload_n 2, 1) := by decide +kernel
theorem dL_law_402 : decode cL_law 402 = .ok (.aload_n 0, 1) := by decide +kernel
theorem dL_law_403 : decode cL_law 403 = .ok (.iload 5, 2) := by decide +kernel
theorem dL_law_405 : decode cL_law 405 = .ok (.iconst 1, 1) := by decide +kernel
theorem dL_law_406 : decode cL_law 406 = .ok (.iadd, 1) := by decide +kernel
theorem dL_law_407 : decode cL_law 407 = .ok (.iaload, 1) := by decide +kernel
theorem dL_law_408 : decode cL_law 408 = .ok (.invokevirtual 133, 3) := by decide +kernel
theorem dL_law_411 : decode cL_law 411 = .ok (.istore 7, 2) := by decide +kernel
theorem dL_law_413 : decode cL_law 413 = .ok (.aload_n 2, 1) := by decide +kernel
theorem dL_law_414 : decode cL_law 414 = .ok (.invokevirtual 120, 3) := by decide +kernel
theorem dL_law_417 : decode cL_law 417 = .ok (.iload 6, 2) := by decide +kernel
theorem dL_law_419 : decode cL_law 419 = .ok (.if_icmp .eq 5, 3) := by decide +kernel
theorem dL_law_422 : decode cL_law 422 = .ok (.iconst 0, 1) := by decide +kernel
theorem dL_law_423 : decode cL_law 423 = .ok (.ireturn, 1) := by decide +kernel
theorem dL_law_424 : decode cL_law 424 = .ok (.iload 6, 2) := by decide +kernel
theorem dL_law_426 : decode cL_law 426 = .ok (.ifCond .ne 15, 3) := by decide +kernel
theorem dL_law_429 : decode cL_law 429 = .ok (.aload_n 3, 1) := by decide +kernel
theorem dL_law_430 : decode cL_law 430 = .ok (.iconst 0, 1) := by decide +kernel
theorem dL_law_431 : decode cL_law 431 = .ok (.laload, 1) := by decide +kernel
theorem dL_law_432 : decode cL_law 432 = .ok (.iload 7, 2) := by decide +kernel
theorem dL_law_434 : decode cL_law 434 = .ok (.i2l, 1) := by decide +kernel
theorem dL_law_435 : decode cL_law 435 = .ok (.lcmp, 1) := by decide +kernel
theorem dL_law_436 : decode cL_law 436 = .ok (.ifCond .eq 5, 3) := by decide +kernel
theorem dL_law_439 : decode cL_law 439 = .ok (.iconst 0, 1) := by decide +kernel
theorem dL_law_440 : decode cL_law 440 = .ok (.ireturn, 1) := by decide +kernel
theorem dL_law_441 : decode cL_law 441 = .ok (.goto 1445, 3) := by decide +kernel
theorem dL_law_444 : decode cL_law 444 = .ok (.aload_n 1, 1) := by decide +kernel
theorem dL_law_445 : decode cL_law 445 = .ok (.aload_n 0, 1) := by decide +kernel
theorem dL_law_446 : decode cL_law 446 = .ok (.iload 5, 2) := by decide +kernel
theorem dL_law_448 : decode cL_law 448 = .ok (.iconst 1, 1) := by decide +kernel
theorem dL_law_449 : decode cL_law 449 = .ok (.iadd, 1) := by decide +kernel
theorem dL_law_450 : decode cL_law 450 = .ok (.iaload, 1) := by decide +kernel
theorem dL_law_451 : decode cL_law 451 = .ok (.aload_n 3, 1) := by decide +kernel
theorem dL_law_452 : decode cL_law 452 = .ok (.invokestatic 134, 3) := by decide +kernel
theorem dL_law_455 : decode cL_law 455 = .ok (.istore 6, 2) := by decide +kernel
theorem dL_law_457 : decode cL_law 457 = .ok (.aload_n 2, 1) := by decide +kernel
theorem dL_law_458 : decode cL_law 458 = .ok (.aload_n 0, 1) := by decide +kernel
theorem dL_law_459 : decode cL_law 459 = .ok (.iload 5, 2) := by decide +kernel
theorem dL_law_461 : decode cL_law 461 = .ok (.iconst 1, 1) := by decide +kernel
theorem dL_law_462 : decode cL_law 462 = .ok (.iadd, 1) := by decide +kernel
theorem dL_law_463 : decode cL_law 463 = .ok (.iaload, 1) := by decide +kernel
theorem dL_law_464 : decode cL_law 464 = .ok (.invokevirtual 136, 3) := by decide +kernel
theorem dL_law_467 : decode cL_law 467 = .ok (.istore 7, 2) := by decide +kernel
theorem dL_law_469 : decode cL_law 469 = .ok (.aload_n 2, 1) := by decide +kernel
theorem dL_law_470 : decode cL_law 470 = .ok (.invokevirtual 120, 3) := by decide +kernel
theorem dL_law_473 : decode cL_law 473 = .ok (.iload 6, 2) := by decide +kernel
theorem dL_law_475 : decode cL_law 475 = .ok (.if_icmp .eq 5, 3) := by decide +kernel
theorem dL_law_478 : decode cL_law 478 = .ok (.iconst 0, 1) := by decide +kernel
theorem dL_law_479 : decode cL_law 479 = .ok (.ireturn, 1) := by decide +kernel
theorem dL_law_480 : decode cL_law 480 = .ok (.iload 6, 2) := by decide +kernel
theorem dL_law_482 : decode cL_law 482 = .ok (.ifCond .ne 15, 3) := by decide +kernel
theorem dL_law_485 : decode cL_law 485 = .ok (.aload_n 3, 1) := by decide +kernel
theorem dL_law_486 : decode cL_law 486 = .ok (.iconst 0, 1) := by decide +kernel
theorem dL_law_487 : decode cL_law 487 = .ok (.laload, 1) := by decide +kernel
theorem dL_law_488 : decode cL_law 488 = .ok (.iload 7, 2) := by decide +kernel
theorem dL_law_490 : decode cL_law 490 = .ok (.i2l, 1) := by decide +kernel
theorem dL_law_491 : decode cL_law 491 = .ok (.lcmp, 1) := by decide +kernel
theorem dL_law_492 : decode cL_law 492 = .ok (.ifCond .eq 5, 3) := by decide +kernel
theorem dL_law_495 : decode cL_law 495 = .ok (.iconst 0, 1) := by decide +kernel
theorem dL_law_496 : decode cL_law 496 = .ok (.ireturn, 1) := by decide +kernel
theorem dL_law_497 : decode cL_law 497 = .ok (.goto 1389, 3) := by decide +kernel
theorem dL_law_500 : decode cL_law 500 = .ok (.aload_n 1, 1) := by decide +kernel
theorem dL_law_501 : decode cL_law 501 = .ok (.invokevirtual 137, 3) := by decide +kernel
theorem dL_law_504 : decode cL_law 504 = .ok (.aload_n 2, 1) := by decide +kernel
theorem dL_law_505 : decode cL_law 505 = .ok (.invokevirtual 140, 3) := by decide +kernel
theorem dL_law_508 : decode cL_law 508 = .ok (.if_icmp .eq 1378, 3) := by decide +kernel
theorem dL_law_511 : decode cL_law 511 = .ok (.iconst 0, 1) := by decide +kernel
theorem dL_law_512 : decode cL_law 512 = .ok (.ireturn, 1) := by decide +kernel
theorem dL_law_513 : decode cL_law 513 = .ok (.aload_n 1, 1) := by decide +kernel
theorem dL_law_514 : decode cL_law 514 = .ok (.aload_n 0, 1) := by decide +kernel
theorem dL_law_515 : decode cL_law 515 = .ok (.iload 5, 2) := by decide +kernel
theorem dL_law_517 : decode cL_law 517 = .ok (.iconst 1, 1) := by decide +kernel
theorem dL_law_518 : decode cL_law 518 = .ok (.iadd, 1) := by decide +kernel
theorem dL_law_519 : decode cL_law 519 = .ok (.iaload, 1) := by decide +kernel
theorem dL_law_520 : decode cL_law 520 = .ok (.aload_n 3, 1) := by decide +kernel
theorem dL_law_521 : decode cL_law 521 = .ok (.invokestatic 141, 3) := by decide +kernel
theorem dL_law_524 : decode cL_law 524 = .ok (.istore 6, 2) := by decide +kernel
theorem dL_law_526 : decode cL_law 526 = .ok (.aload_n 2, 1) := by decide +kernel
theorem dL_law_527 : decode cL_law 527 = .ok (.aload_n 0, 1) := by decide +kernel
theorem dL_law_528 : decode cL_law 528 = .ok (.iload 5, 2) := by decide +kernel
theorem dL_law_530 : decode cL_law 530 = .ok (.iconst 1, 1) := by decide +kernel
theorem dL_law_531 : decode cL_law 531 = .ok (.iadd, 1) := by decide +kernel
theorem dL_law_532 : decode cL_law 532 = .ok (.iaload, 1) := by decide +kernel
theorem dL_law_533 : decode cL_law 533 = .ok (.invokevirtual 143, 3) := by decide +kernel
theorem dL_law_536 : decode cL_law 536 = .ok (.istore 7, 2) := by decide +kernel
theorem dL_law_538 : decode cL_law 538 = .ok (.aload_n 2, 1) := by decide +kernel
theorem dL_law_539 : decode cL_law 539 = .ok (.invokevirtual 120, 3) := by decide +kernel
theorem dL_law_542 : decode cL_law 542 = .ok (.iload 6, 2) := by decide +kernel
theorem dL_law_544 : decode cL_law 544 = .ok (.if_icmp .eq 5, 3) := by decide +kernel
theorem dL_law_547 : decode cL_law 547 = .ok (.iconst 0, 1) := by decide +kernel
theorem dL_law_548 : decode cL_law 548 = .ok (.ireturn, 1) := by decide +kernel
theorem dL_law_549 : decode cL_law 549 = .ok (.iload 6, 2) := by decide +kernel
theorem dL_law_551 : decode cL_law 551 = .ok (.ifCond .ne 15, 3) := by decide +kernel
theorem dL_law_554 : decode cL_law 554 = .ok (.aload_n 3, 1) := by decide +kernel
theorem dL_law_555 : decode cL_law 555 = .ok (.iconst 0, 1) := by decide +kernel
theorem dL_law_556 : decode cL_law 556 = .ok (.laload, 1) := by decide +kernel
theorem dL_law_557 : decode cL_law 557 = .ok (.iload 7, 2) := by decide +kernel
theorem dL_law_559 : decode cL_law 559 = .ok (.i2l, 1) := by decide +kernel
theorem dL_law_560 : decode cL_law 560 = .ok (.lcmp, 1) := by decide +kernel
theorem dL_law_561 : decode cL_law 561 = .ok (.ifCond .eq 5, 3) := by decide +kernel
theorem dL_law_564 : decode cL_law 564 = .ok (.iconst 0, 1) := by decide +kernel
theorem dL_law_565 : decode cL_law 565 = .ok (.ireturn, 1) := by decide +kernel
theorem dL_law_566 : decode cL_law 566 = .ok (.goto 1320, 3) := by decide +kernel
theorem dL_law_569 : decode cL_law 569 = .ok (.aload_n 1, 1) := by decide +kernel
theorem dL_law_570 : decode cL_law 570 = .ok (.aload_n 0, 1) := by decide +kernel
theorem dL_law_571 : decode cL_law 571 = .ok (.iload 5, 2) := by decide +kernel
theorem dL_law_573 : decode cL_law 573 = .ok (.iconst 1, 1) := by decide +kernel
theorem dL_law_574 : decode cL_law 574 = .ok (.iadd, 1) := by decide +kernel
theorem dL_law_575 : decode cL_law 575 = .ok (.iaload, 1) := by decide +kernel
theorem dL_law_576 : decode cL_law 576 = .ok (.aload_n 3, 1) := by decide +kernel
theorem dL_law_577 : decode cL_law 577 = .ok (.invokestatic 144, 3) := by decide +kernel
theorem dL_law_580 : decode cL_law 580 = .ok (.istore 6, 2) := by decide +kernel
theorem dL_law_582 : decode cL_law 582 = .ok (.aload_n 2, 1) := by decide +kernel
theorem dL_law_583 : decode cL_law 583 = .ok (.aload_n 0, 1) := by decide +kernel
theorem dL_law_584 : decode cL_law 584 = .ok (.iload 5, 2) := by decide +kernel
theorem dL_law_586 : decode cL_law 586 = .ok (.iconst 1, 1) := by decide +kernel
theorem dL_law_587 : decode cL_law 587 = .ok (.iadd, 1) := by decide +kernel
theorem dL_law_588 : decode cL_law 588 = .ok (.iaload, 1) := by decide +kernel
theorem dL_law_589 : decode cL_law 589 = .ok (.invokevirtual 146, 3) := by decide +kernel
theorem dL_law_592 : decode cL_law 592 = .ok (.istore 7, 2) := by decide +kernel
theorem dL_law_594 : decode cL_law 594 = .ok (.aload_n 2, 1) := by decide +kernel
theorem dL_law_595 : decode cL_law 595 = .ok (.invokevirtual 120, 3) := by decide +kernel
theorem dL_law_598 : decode cL_law 598 = .ok (.iload 6, 2) := by decide +kernel
theorem dL_law_600 : decode cL_law 600 = .ok (.if_icmp .eq 5, 3) := by decide +kernel
theorem dL_law_603 : decode cL_law 603 = .ok (.iconst 0, 1) := by decide +kernel
theorem dL_law_604 : decode cL_law 604 = .ok (.ireturn, 1) := by decide +kernel
theorem dL_law_605 : decode cL_law 605 = .ok (.iload 6, 2) := by decide +kernel
theorem dL_law_607 : decode cL_law 607 = .ok (.ifCond .ne 15, 3) := by decide +kernel
theorem dL_law_610 : decode cL_law 610 = .ok (.aload_n 3, 1) := by decide +kernel
theorem dL_law_611 : decode cL_law 611 = .ok (.iconst 0, 1) := by decide +kernel
theorem dL_law_612 : decode cL_law 612 = .ok (.laload, 1) := by decide +kernel
theorem dL_law_613 : decode cL_law 613 = .ok (.iload 7, 2) := by decide +kernel
theorem dL_law_615 : decode cL_law 615 = .ok (.i2l, 1) := by decide +kernel
theorem dL_law_616 : decode cL_law 616 = .ok (.lcmp, 1) := by decide +kernel
theorem dL_law_617 : decode cL_law 617 = .ok (.ifCond .eq 5, 3) := by decide +kernel
theorem dL_law_620 : decode cL_law 620 = .ok (.iconst 0, 1) := by decide +kernel
theorem dL_law_621 : decode cL_law 621 = .ok (.ireturn, 1) := by decide +kernel
theorem dL_law_622 : decode cL_law 622 = .ok (.goto 1264, 3) := by decide +kernel
theorem dL_law_625 : decode cL_law 625 = .ok (.aload_n 1, 1) := by decide +kernel
theorem dL_law_626 : decode cL_law 626 = .ok (.aload_n 0, 1) := by decide +kernel
theorem dL_law_627 : decode cL_law 627 = .ok (.iload 5, 2) := by decide +kernel
theorem dL_law_629 : decode cL_law 629 = .ok (.iconst 1, 1) := by decide +kernel
theorem dL_law_630 : decode cL_law 630 = .ok (.iadd, 1) := by decide +kernel
theorem dL_law_631 : decode cL_law 631 = .ok (.iaload, 1) := by decide +kernel
theorem dL_law_632 : decode cL_law 632 = .ok (.aload_n 0, 1) := by decide +kernel
theorem dL_law_633 : decode cL_law 633 = .ok (.iload 5, 2) := by decide +kernel
theorem dL_law_635 : decode cL_law 635 = .ok (.iconst 2, 1) := by decide +kernel
theorem dL_law_636 : decode cL_law 636 = .ok (.iadd, 1) := by decide +kernel
theorem dL_law_637 : decode cL_law 637 = .ok (.iaload, 1) := by decide +kernel
theorem dL_law_638 : decode cL_law 638 = .ok (.aload_n 0, 1) := by decide +kernel
theorem dL_law_639 : decode cL_law 639 = .ok (.iload 5, 2) := by decide +kernel
theorem dL_law_641 : decode cL_law 641 = .ok (.iconst 3, 1) := by decide +kernel
theorem dL_law_642 : decode cL_law 642 = .ok (.iadd, 1) := by decide +kernel
theorem dL_law_643 : decode cL_law 643 = .ok (.iaload, 1) := by decide +kernel
theorem dL_law_644 : decode cL_law 644 = .ok (.aload_n 3, 1) := by decide +kernel
theorem dL_law_645 : decode cL_law 645 = .ok (.invokestatic 147, 3) := by decide +kernel
theorem dL_law_648 : decode cL_law 648 = .ok (.istore 6, 2) := by decide +kernel
theorem dL_law_650 : decode cL_law 650 = .ok (.aload_n 2, 1) := by decide +kernel
theorem dL_law_651 : decode cL_law 651 = .ok (.aload_n 0, 1) := by decide +kernel
theorem dL_law_652 : decode cL_law 652 = .ok (.iload 5, 2) := by decide +kernel
theorem dL_law_654 : decode cL_law 654 = .ok (.iconst 1, 1) := by decide +kernel
theorem dL_law_655 : decode cL_law 655 = .ok (.iadd, 1) := by decide +kernel
theorem dL_law_656 : decode cL_law 656 = .ok (.iaload, 1) := by decide +kernel
theorem dL_law_657 : decode cL_law 657 = .ok (.aload_n 0, 1) := by decide +kernel
theorem dL_law_658 : decode cL_law 658 = .ok (.iload 5, 2) := by decide +kernel
theorem dL_law_660 : decode cL_law 660 = .ok (.iconst 2, 1) := by decide +kernel
theorem dL_law_661 : decode cL_law 661 = .ok (.iadd, 1) := by decide +kernel
theorem dL_law_662 : decode cL_law 662 = .ok (.iaload, 1) := by decide +kernel
theorem dL_law_663 : decode cL_law 663 = .ok (.aload_n 0, 1) := by decide +kernel
theorem dL_law_664 : decode cL_law 664 = .ok (.iload 5, 2) := by decide +kernel
theorem dL_law_666 : decode cL_law 666 = .ok (.iconst 3, 1) := by decide +kernel
theorem dL_law_667 : decode cL_law 667 = .ok (.iadd, 1) := by decide +kernel
theorem dL_law_668 : decode cL_law 668 = .ok (.iaload, 1) := by decide +kernel
theorem dL_law_669 : decode cL_law 669 = .ok (.invokevirtual 150, 3) := by decide +kernel
theorem dL_law_672 : decode cL_law 672 = .ok (.istore 7, 2) := by decide +kernel
theorem dL_law_674 : decode cL_law 674 = .ok (.aload_n 2, 1) := by decide +kernel
theorem dL_law_675 : decode cL_law 675 = .ok (.invokevirtual 120, 3) := by decide +kernel
theorem dL_law_678 : decode cL_law 678 = .ok (.iload 6, 2) := by decide +kernel
theorem dL_law_680 : decode cL_law 680 = .ok (.if_icmp .eq 5, 3) := by decide +kernel
theorem dL_law_683 : decode cL_law 683 = .ok (.iconst 0, 1) := by decide +kernel
theorem dL_law_684 : decode cL_law 684 = .ok (.ireturn, 1) := by decide +kernel
theorem dL_law_685 : decode cL_law 685 = .ok (.iload 6, 2) := by decide +kernel
theorem dL_law_687 : decode cL_law 687 = .ok (.ifCond .ne 15, 3) := by decide +kernel
theorem dL_law_690 : decode cL_law 690 = .ok (.aload_n 3, 1) := by decide +kernel
theorem dL_law_691 : decode cL_law 691 = .ok (.iconst 0, 1) := by decide +kernel
theorem dL_law_692 : decode cL_law 692 = .ok (.laload, 1) := by decide +kernel
theorem dL_law_693 : decode cL_law 693 = .ok (.iload 7, 2) := by decide +kernel
theorem dL_law_695 : decode cL_law 695 = .ok (.i2l, 1) := by decide +kernel
theorem dL_law_696 : decode cL_law 696 = .ok (.lcmp, 1) := by decide +kernel
theorem dL_law_697 : decode cL_law 697 = .ok (.ifCond .eq 5, 3) := by decide +kernel
theorem dL_law_700 : decode cL_law 700 = .ok (.iconst 0, 1) := by decide +kernel
theorem dL_law_701 : decode cL_law 701 = .ok (.ireturn, 1) := by decide +kernel
theorem dL_law_702 : decode cL_law 702 = .ok (.goto 1184, 3) := by decide +kernel
theorem dL_law_705 : decode cL_law 705 = .ok (.aload_n 1, 1) := by decide +kernel
theorem dL_law_706 : decode cL_law 706 = .ok (.aload_n 0, 1) := by decide +kernel
theorem dL_law_707 : decode cL_law 707 = .ok (.iload 5, 2) := by decide +kernel
theorem dL_law_709 : decode cL_law 709 = .ok (.iconst 1, 1) := by decide +kernel
theorem dL_law_710 : decode cL_law 710 = .ok (.iadd, 1) := by decide +kernel
theorem dL_law_711 : decode cL_law 711 = .ok (.iaload, 1) := by decide +kernel
theorem dL_law_712 : decode cL_law 712 = .ok (.aload_n 3, 1) := by decide +kernel
theorem dL_law_713 : decode cL_law 713 = .ok (.invokestatic 151, 3) := by decide +kernel
theorem dL_law_716 : decode cL_law 716 = .ok (.istore 6, 2) := by decide +kernel
theorem dL_law_718 : decode cL_law 718 = .ok (.aload_n 2, 1) := by decide +kernel
theorem dL_law_719 : decode cL_law 719 = .ok (.aload_n 0, 1) := by decide +kernel
theorem dL_law_720 : decode cL_law 720 = .ok (.iload 5, 2) := by decide +kernel
theorem dL_law_722 : decode cL_law 722 = .ok (.iconst 1, 1) := by decide +kernel
theorem dL_law_723 : decode cL_law 723 = .ok (.iadd, 1) := by decide +kernel
theorem dL_law_724 : decode cL_law 724 = .ok (.iaload, 1) := by decide +kernel
theorem dL_law_725 : decode cL_law 725 = .ok (.invokevirtual 153, 3) := by decide +kernel
theorem dL_law_728 : decode cL_law 728 = .ok (.istore 7, 2) := by decide +kernel
theorem dL_law_730 : decode cL_law 730 = .ok (.aload_n 2, 1) := by decide +kernel
theorem dL_law_731 : decode cL_law 731 = .ok (.invokevirtual 120, 3) := by decide +kernel
theorem dL_law_734 : decode cL_law 734 = .ok (.iload 6, 2) := by decide +kernel
theorem dL_law_736 : decode cL_law 736 = .ok (.if_icmp .eq 5, 3) := by decide +kernel
theorem dL_law_739 : decode cL_law 739 = .ok (.iconst 0, 1) := by decide +kernel
theorem dL_law_740 : decode cL_law 740 = .ok (.ireturn, 1) := by decide +kernel
theorem dL_law_741 : decode cL_law 741 = .ok (.iload 6, 2) := by decide +kernel
theorem dL_law_743 : decode cL_law 743 = .ok (.ifCond .ne 15, 3) := by decide +kernel
theorem dL_law_746 : decode cL_law 746 = .ok (.aload_n 3, 1) := by decide +kernel
theorem dL_law_747 : decode cL_law 747 = .ok (.iconst 0, 1) := by decide +kernel
theorem dL_law_748 : decode cL_law 748 = .ok (.laload, 1) := by decide +kernel
theorem dL_law_749 : decode cL_law 749 = .ok (.iload 7, 2) := by decide +kernel
theorem dL_law_751 : decode cL_law 751 = .ok (.i2l, 1) := by decide +kernel
theorem dL_law_752 : decode cL_law 752 = .ok (.lcmp, 1) := by decide +kernel
theorem dL_law_753 : decode cL_law 753 = .ok (.ifCond .eq 5, 3) := by decide +kernel
theorem dL_law_756 : decode cL_law 756 = .ok (.iconst 0, 1) := by decide +kernel
theorem dL_law_757 : decode cL_law 757 = .ok (.ireturn, 1) := by decide +kernel
theorem dL_law_758 : decode cL_law 758 = .ok (.goto 1128, 3) := by decide +kernel
theorem dL_law_761 : decode cL_law 761 = .ok (.aload_n 1, 1) := by decide +kernel
theorem dL_law_762 : decode cL_law 762 = .ok (.aload_n 0, 1) := by decide +kernel
theorem dL_law_763 : decode cL_law 763 = .ok (.iload 5, 2) := by decide +kernel
theorem dL_law_765 : decode cL_law 765 = .ok (.iconst 1, 1) := by decide +kernel
theorem dL_law_766 : decode cL_law 766 = .ok (.iadd, 1) := by decide +kernel
theorem dL_law_767 : decode cL_law 767 = .ok (.iaload, 1) := by decide +kernel
theorem dL_law_768 : decode cL_law 768 = .ok (.aload_n 3, 1) := by decide +kernel
theorem dL_law_769 : decode cL_law 769 = .ok (.invokestatic 154, 3) := by decide +kernel
theorem dL_law_772 : decode cL_law 772 = .ok (.istore 6, 2) := by decide +kernel
theorem dL_law_774 : decode cL_law 774 = .ok (.aload_n 2, 1) := by decide +kernel
theorem dL_law_775 : decode cL_law 775 = .ok (.aload_n 0, 1) := by decide +kernel
theorem dL_law_776 : decode cL_law 776 = .ok (.iload 5, 2) := by decide +kernel
theorem dL_law_778 : decode cL_law 778 = .ok (.iconst 1, 1) := by decide +kernel
theorem dL_law_779 : decode cL_law 779 = .ok (.iadd, 1) := by decide +kernel
theorem dL_law_780 : decode cL_law 780 = .ok (.iaload, 1) := by decide +kernel
theorem dL_law_781 : decode cL_law 781 = .ok (.invokevirtual 156, 3) := by decide +kernel
theorem dL_law_784 : decode cL_law 784 = .ok (.istore 7, 2) := by decide +kernel
theorem dL_law_786 : decode cL_law 786 = .ok (.aload_n 2, 1) := by decide +kernel
theorem dL_law_787 : decode cL_law 787 = .ok (.invokevirtual 120, 3) := by decide +kernel
theorem dL_law_790 : decode cL_law 790 = .ok (.iload 6, 2) := by decide +kernel
theorem dL_law_792 : decode cL_law 792 = .ok (.if_icmp .eq 5, 3) := by decide +kernel
theorem dL_law_795 : decode cL_law 795 = .ok (.iconst 0, 1) := by decide +kernel
theorem dL_law_796 : decode cL_law 796 = .ok (.ireturn, 1) := by decide +kernel
theorem dL_law_797 : decode cL_law 797 = .ok (.iload 6, 2) := by decide +kernel
theorem dL_law_799 : decode cL_law 799 = .ok (.ifCond .ne 15, 3) := by decide +kernel
theorem dL_law_802 : decode cL_law 802 = .ok (.aload_n 3, 1) := by decide +kernel
theorem dL_law_803 : decode cL_law 803 = .ok (.iconst 0, 1) := by decide +kernel
theorem dL_law_804 : decode cL_law 804 = .ok (.laload, 1) := by decide +kernel
theorem dL_law_805 : decode cL_law 805 = .ok (.iload 7, 2) := by decide +kernel
theorem dL_law_807 : decode cL_law 807 = .ok (.i2l, 1) := by decide +kernel
theorem dL_law_808 : decode cL_law 808 = .ok (.lcmp, 1) := by decide +kernel
theorem dL_law_809 : decode cL_law 809 = .ok (.ifCond .eq 5, 3) := by decide +kernel
theorem dL_law_812 : decode cL_law 812 = .ok (.iconst 0, 1) := by decide +kernel
theorem dL_law_813 : decode cL_law 813 = .ok (.ireturn, 1) := by decide +kernel
theorem dL_law_814 : decode cL_law 814 = .ok (.goto 1072, 3) := by decide +kernel
theorem dL_law_817 : decode cL_law 817 = .ok (.aload_n 1, 1) := by decide +kernel
theorem dL_law_818 : decode cL_law 818 = .ok (.invokevirtual 157, 3) := by decide +kernel
theorem dL_law_821 : decode cL_law 821 = .ok (.aload_n 2, 1) := by decide +kernel
theorem dL_law_822 : decode cL_law 822 = .ok (.invokevirtual 160, 3) := by decide +kernel
theorem dL_law_825 : decode cL_law 825 = .ok (.if_icmp .eq 1061, 3) := by decide +kernel
theorem dL_law_828 : decode cL_law 828 = .ok (.iconst 0, 1) := by decide +kernel
theorem dL_law_829 : decode cL_law 829 = .ok (.ireturn, 1) := by decide +kernel
theorem dL_law_830 : decode cL_law 830 = .ok (.aload_n 1, 1) := by decide +kernel
theorem dL_law_831 : decode cL_law 831 = .ok (.invokevirtual 161, 3) := by decide +kernel
theorem dL_law_834 : decode cL_law 834 = .ok (.aload_n 2, 1) := by decide +kernel
theorem dL_law_835 : decode cL_law 835 = .ok (.invokevirtual 164, 3) := by decide +kernel
theorem dL_law_838 : decode cL_law 838 = .ok (.if_icmp .eq 1048, 3) := by decide +kernel
theorem dL_law_841 : decode cL_law 841 = .ok (.iconst 0, 1) := by decide +kernel
theorem dL_law_842 : decode cL_law 842 = .ok (.ireturn, 1) := by decide +kernel
theorem dL_law_843 : decode cL_law 843 = .ok (.aload_n 1, 1) := by decide +kernel
theorem dL_law_844 : decode cL_law 844 = .ok (.aload_n 0, 1) := by decide +kernel
theorem dL_law_845 : decode cL_law 845 = .ok (.iload 5, 2) := by decide +kernel
theorem dL_law_847 : decode cL_law 847 = .ok (.iconst 1, 1) := by decide +kernel
theorem dL_law_848 : decode cL_law 848 = .ok (.iadd, 1) := by decide +kernel
theorem dL_law_849 : decode cL_law 849 = .ok (.iaload, 1) := by decide +kernel
theorem dL_law_850 : decode cL_law 850 = .ok (.aload_n 3, 1) := by decide +kernel
theorem dL_law_851 : decode cL_law 851 = .ok (.invokestatic 165, 3) := by decide +kernel
theorem dL_law_854 : decode cL_law 854 = .ok (.istore 6, 2) := by decide +kernel
theorem dL_law_856 : decode cL_law 856 = .ok (.aload_n 2, 1) := by decide +kernel
theorem dL_law_857 : decode cL_law 857 = .ok (.aload_n 0, 1) := by decide +kernel
theorem dL_law_858 : decode cL_law 858 = .ok (.iload 5, 2) := by decide +kernel
theorem dL_law_860 : decode cL_law 860 = .ok (.iconst 1, 1) := by decide +kernel
theorem dL_law_861 : decode cL_law 861 = .ok (.iadd, 1) := by decide +kernel
theorem dL_law_862 : decode cL_law 862 = .ok (.iaload, 1) := by decide +kernel
theorem dL_law_863 : decode cL_law 863 = .ok (.invokevirtual 167, 3) := by decide +kernel
theorem dL_law_866 : decode cL_law 866 = .ok (.istore 7, 2) := by decide +kernel
theorem dL_law_868 : decode cL_law 868 = .ok (.aload_n 2, 1) := by decide +kernel
theorem dL_law_869 : decode cL_law 869 = .ok (.invokevirtual 120, 3) := by decide +kernel
theorem dL_law_872 : decode cL_law 872 = .ok (.iload 6, 2) := by decide +kernel
theorem dL_law_874 : decode cL_law 874 = .ok (.if_icmp .eq 5, 3) := by decide +kernel
theorem dL_law_877 : decode cL_law 877 = .ok (.iconst 0, 1) := by decide +kernel
theorem dL_law_878 : decode cL_law 878 = .ok (.ireturn, 1) := by decide +kernel
theorem dL_law_879 : decode cL_law 879 = .ok (.iload 6, 2) := by decide +kernel
theorem dL_law_881 : decode cL_law 881 = .ok (.ifCond .ne 15, 3) := by decide +kernel
theorem dL_law_884 : decode cL_law 884 = .ok (.aload_n 3, 1) := by decide +kernel
theorem dL_law_885 : decode cL_law 885 = .ok (.iconst 0, 1) := by decide +kernel
theorem dL_law_886 : decode cL_law 886 = .ok (.laload, 1) := by decide +kernel
theorem dL_law_887 : decode cL_law 887 = .ok (.iload 7, 2) := by decide +kernel
theorem dL_law_889 : decode cL_law 889 = .ok (.i2l, 1) := by decide +kernel
theorem dL_law_890 : decode cL_law 890 = .ok (.lcmp, 1) := by decide +kernel
theorem dL_law_891 : decode cL_law 891 = .ok (.ifCond .eq 5, 3) := by decide +kernel
theorem dL_law_894 : decode cL_law 894 = .ok (.iconst 0, 1) := by decide +kernel
theorem dL_law_895 : decode cL_law 895 = .ok (.ireturn, 1) := by decide +kernel
theorem dL_law_896 : decode cL_law 896 = .ok (.goto 990, 3) := by decide +kernel
theorem dL_law_899 : decode cL_law 899 = .ok (.aload_n 1, 1) := by decide +kernel
theorem dL_law_900 : decode cL_law 900 = .ok (.aload_n 0, 1) := by decide +kernel
theorem dL_law_901 : decode cL_law 901 = .ok (.iload 5, 2) := by decide +kernel
theorem dL_law_903 : decode cL_law 903 = .ok (.iconst 1, 1) := by decide +kernel
theorem dL_law_904 : decode cL_law 904 = .ok (.iadd, 1) := by decide +kernel
theorem dL_law_905 : decode cL_law 905 = .ok (.iaload, 1) := by decide +kernel
theorem dL_law_906 : decode cL_law 906 = .ok (.aload_n 3, 1) := by decide +kernel
theorem dL_law_907 : decode cL_law 907 = .ok (.invokestatic 168, 3) := by decide +kernel
theorem dL_law_910 : decode cL_law 910 = .ok (.istore 6, 2) := by decide +kernel
theorem dL_law_912 : decode cL_law 912 = .ok (.aload_n 2, 1) := by decide +kernel
theorem dL_law_913 : decode cL_law 913 = .ok (.aload_n 0, 1) := by decide +kernel
theorem dL_law_914 : decode cL_law 914 = .ok (.iload 5, 2) := by decide +kernel
theorem dL_law_916 : decode cL_law 916 = .ok (.iconst 1, 1) := by decide +kernel
theorem dL_law_917 : decode cL_law 917 = .ok (.iadd, 1) := by decide +kernel
theorem dL_law_918 : decode cL_law 918 = .ok (.iaload, 1) := by decide +kernel
theorem dL_law_919 : decode cL_law 919 = .ok (.invokevirtual 170, 3) := by decide +kernel
theorem dL_law_922 : decode cL_law 922 = .ok (.istore 7, 2) := by decide +kernel
theorem dL_law_924 : decode cL_law 924 = .ok (.aload_n 2, 1) := by decide +kernel
theorem dL_law_925 : decode cL_law 925 = .ok (.invokevirtual 120, 3) := by decide +kernel
theorem dL_law_928 : decode cL_law 928 = .ok (.iload 6, 2) := by decide +kernel
theorem dL_law_930 : decode cL_law 930 = .ok (.if_icmp .eq 5, 3) := by decide +kernel
theorem dL_law_933 : decode cL_law 933 = .ok (.iconst 0, 1) := by decide +kernel
theorem dL_law_934 : decode cL_law 934 = .ok (.ireturn, 1) := by decide +kernel
theorem dL_law_935 : decode cL_law 935 = .ok (.iload 6, 2) := by decide +kernel
theorem dL_law_937 : decode cL_law 937 = .ok (.ifCond .ne 15, 3) := by decide +kernel
theorem dL_law_940 : decode cL_law 940 = .ok (.aload_n 3, 1) := by decide +kernel
theorem dL_law_941 : decode cL_law 941 = .ok (.iconst 0, 1) := by decide +kernel
theorem dL_law_942 : decode cL_law 942 = .ok (.laload, 1) := by decide +kernel
theorem dL_law_943 : decode cL_law 943 = .ok (.iload 7, 2) := by decide +kernel
theorem dL_law_945 : decode cL_law 945 = .ok (.i2l, 1) := by decide +kernel
theorem dL_law_946 : decode cL_law 946 = .ok (.lcmp, 1) := by decide +kernel
theorem dL_law_947 : decode cL_law 947 = .ok (.ifCond .eq 5, 3) := by decide +kernel
theorem dL_law_950 : decode cL_law 950 = .ok (.iconst 0, 1) := by decide +kernel
theorem dL_law_951 : decode cL_law 951 = .ok (.ireturn, 1) := by decide +kernel
theorem dL_law_952 : decode cL_law 952 = .ok (.goto 934, 3) := by decide +kernel
theorem dL_law_955 : decode cL_law 955 = .ok (.aload_n 1, 1) := by decide +kernel
theorem dL_law_956 : decode cL_law 956 = .ok (.aload_n 0, 1) := by decide +kernel
theorem dL_law_957 : decode cL_law 957 = .ok (.iload 5, 2) := by decide +kernel
theorem dL_law_959 : decode cL_law 959 = .ok (.iconst 1, 1) := by decide +kernel
theorem dL_law_960 : decode cL_law 960 = .ok (.iadd, 1) := by decide +kernel
theorem dL_law_961 : decode cL_law 961 = .ok (.iaload, 1) := by decide +kernel
theorem dL_law_962 : decode cL_law 962 = .ok (.aload_n 3, 1) := by decide +kernel
theorem dL_law_963 : decode cL_law 963 = .ok (.invokestatic 171, 3) := by decide +kernel
theorem dL_law_966 : decode cL_law 966 = .ok (.istore 6, 2) := by decide +kernel
theorem dL_law_968 : decode cL_law 968 = .ok (.aload_n 2, 1) := by decide +kernel
theorem dL_law_969 : decode cL_law 969 = .ok (.aload_n 0, 1) := by decide +kernel
theorem dL_law_970 : decode cL_law 970 = .ok (.iload 5, 2) := by decide +kernel
theorem dL_law_972 : decode cL_law 972 = .ok (.iconst 1, 1) := by decide +kernel
theorem dL_law_973 : decode cL_law 973 = .ok (.iadd, 1) := by decide +kernel
theorem dL_law_974 : decode cL_law 974 = .ok (.iaload, 1) := by decide +kernel
theorem dL_law_975 : decode cL_law 975 = .ok (.invokevirtual 173, 3) := by decide +kernel
theorem dL_law_978 : decode cL_law 978 = .ok (.istore 7, 2) := by decide +kernel
theorem dL_law_980 : decode cL_law 980 = .ok (.aload_n 2, 1) := by decide +kernel
theorem dL_law_981 : decode cL_law 981 = .ok (.invokevirtual 120, 3) := by decide +kernel
theorem dL_law_984 : decode cL_law 984 = .ok (.iload 6, 2) := by decide +kernel
theorem dL_law_986 : decode cL_law 986 = .ok (.if_icmp .eq 5, 3) := by decide +kernel
theorem dL_law_989 : decode cL_law 989 = .ok (.iconst 0, 1) := by decide +kernel
theorem dL_law_990 : decode cL_law 990 = .ok (.ireturn, 1) := by decide +kernel
theorem dL_law_991 : decode cL_law 991 = .ok (.iload 6, 2) := by decide +kernel
theorem dL_law_993 : decode cL_law 993 = .ok (.ifCond .ne 15, 3) := by decide +kernel
theorem dL_law_996 : decode cL_law 996 = .ok (.aload_n 3, 1) := by decide +kernel
theorem dL_law_997 : decode cL_law 997 = .ok (.iconst 0, 1) := by decide +kernel
theorem dL_law_998 : decode cL_law 998 = .ok (.laload, 1) := by decide +kernel
theorem dL_law_999 : decode cL_law 999 = .ok (.iload 7, 2) := by decide +kernel
theorem dL_law_1001 : decode cL_law 1001 = .ok (.i2l, 1) := by decide +kernel
theorem dL_law_1002 : decode cL_law 1002 = .ok (.lcmp, 1) := by decide +kernel
theorem dL_law_1003 : decode cL_law 1003 = .ok (.ifCond .eq 5, 3) := by decide +kernel
theorem dL_law_1006 : decode cL_law 1006 = .ok (.iconst 0, 1) := by decide +kernel
theorem dL_law_1007 : decode cL_law 1007 = .ok (.ireturn, 1) := by decide +kernel
theorem dL_law_1008 : decode cL_law 1008 = .ok (.goto 878, 3) := by decide +kernel
theorem dL_law_1011 : decode cL_law 1011 = .ok (.aload_n 1, 1) := by decide +kernel
theorem dL_law_1012 : decode cL_law 1012 = .ok (.aload_n 0, 1) := by decide +kernel
theorem dL_law_1013 : decode cL_law 1013 = .ok (.iload 5, 2) := by decide +kernel
theorem dL_law_1015 : decode cL_law 1015 = .ok (.iconst 1, 1) := by decide +kernel
theorem dL_law_1016 : decode cL_law 1016 = .ok (.iadd, 1) := by decide +kernel
theorem dL_law_1017 : decode cL_law 1017 = .ok (.iaload, 1) := by decide +kernel
theorem dL_law_1018 : decode cL_law 1018 = .ok (.aload_n 3, 1) := by decide +kernel
theorem dL_law_1019 : decode cL_law 1019 = .ok (.invokestatic 174, 3) := by decide +kernel
theorem dL_law_1022 : decode cL_law 1022 = .ok (.istore 6, 2) := by decide +kernel
theorem dL_law_1024 : decode cL_law 1024 = .ok (.aload_n 2, 1) := by decide +kernel
theorem dL_law_1025 : decode cL_law 1025 = .ok (.aload_n 0, 1) := by decide +kernel
theorem dL_law_1026 : decode cL_law 1026 = .ok (.iload 5, 2) := by decide +kernel
theorem dL_law_1028 : decode cL_law 1028 = .ok (.iconst 1, 1) := by decide +kernel
theorem dL_law_1029 : decode cL_law 1029 = .ok (.iadd, 1) := by decide +kernel
theorem dL_law_1030 : decode cL_law 1030 = .ok (.iaload, 1) := by decide +kernel
theorem dL_law_1031 : decode cL_law 1031 = .ok (.invokevirtual 176, 3) := by decide +kernel
theorem dL_law_1034 : decode cL_law 1034 = .ok (.istore 7, 2) := by decide +kernel
theorem dL_law_1036 : decode cL_law 1036 = .ok (.aload_n 2, 1) := by decide +kernel
theorem dL_law_1037 : decode cL_law 1037 = .ok (.invokevirtual 120, 3) := by decide +kernel
theorem dL_law_1040 : decode cL_law 1040 = .ok (.iload 6, 2) := by decide +kernel
theorem dL_law_1042 : decode cL_law 1042 = .ok (.if_icmp .eq 5, 3) := by decide +kernel
theorem dL_law_1045 : decode cL_law 1045 = .ok (.iconst 0, 1) := by decide +kernel
theorem dL_law_1046 : decode cL_law 1046 = .ok (.ireturn, 1) := by decide +kernel
theorem dL_law_1047 : decode cL_law 1047 = .ok (.iload 6, 2) := by decide +kernel
theorem dL_law_1049 : decode cL_law 1049 = .ok (.ifCond .ne 15, 3) := by decide +kernel
theorem dL_law_1052 : decode cL_law 1052 = .ok (.aload_n 3, 1) := by decide +kernel
theorem dL_law_1053 : decode cL_law 1053 = .ok (.iconst 0, 1) := by decide +kernel
theorem dL_law_1054 : decode cL_law 1054 = .ok (.laload, 1) := by decide +kernel
theorem dL_law_1055 : decode cL_law 1055 = .ok (.iload 7, 2) := by decide +kernel
theorem dL_law_1057 : decode cL_law 1057 = .ok (.i2l, 1) := by decide +kernel
theorem dL_law_1058 : decode cL_law 1058 = .ok (.lcmp, 1) := by decide +kernel
theorem dL_law_1059 : decode cL_law 1059 = .ok (.ifCond .eq 5, 3) := by decide +kernel
theorem dL_law_1062 : decode cL_law 1062 = .ok (.iconst 0, 1) := by decide +kernel
theorem dL_law_1063 : decode cL_law 1063 = .ok (.ireturn, 1) := by decide +kernel
theorem dL_law_1064 : decode cL_law 1064 = .ok (.goto 822, 3) := by decide +kernel
theorem dL_law_1067 : decode cL_law 1067 = .ok (.aload_n 1, 1) := by decide +kernel
theorem dL_law_1068 : decode cL_law 1068 = .ok (.aload_n 0, 1) := by decide +kernel
theorem dL_law_1069 : decode cL_law 1069 = .ok (.iload 5, 2) := by decide +kernel
theorem dL_law_1071 : decode cL_law 1071 = .ok (.iconst 1, 1) := by decide +kernel
theorem dL_law_1072 : decode cL_law 1072 = .ok (.iadd, 1) := by decide +kernel
theorem dL_law_1073 : decode cL_law 1073 = .ok (.iaload, 1) := by decide +kernel
theorem dL_law_1074 : decode cL_law 1074 = .ok (.aload_n 3, 1) := by decide +kernel
theorem dL_law_1075 : decode cL_law 1075 = .ok (.invokestatic 177, 3) := by decide +kernel
theorem dL_law_1078 : decode cL_law 1078 = .ok (.istore 6, 2) := by decide +kernel
theorem dL_law_1080 : decode cL_law 1080 = .ok (.aload_n 2, 1) := by decide +kernel
theorem dL_law_1081 : decode cL_law 1081 = .ok (.aload_n 0, 1) := by decide +kernel
theorem dL_law_1082 : decode cL_law 1082 = .ok (.iload 5, 2) := by decide +kernel
theorem dL_law_1084 : decode cL_law 1084 = .ok (.iconst 1, 1) := by decide +kernel
theorem dL_law_1085 : decode cL_law 1085 = .ok (.iadd, 1) := by decide +kernel
theorem dL_law_1086 : decode cL_law 1086 = .ok (.iaload, 1) := by decide +kernel
theorem dL_law_1087 : decode cL_law 1087 = .ok (.invokevirtual 179, 3) := by decide +kernel
theorem dL_law_1090 : decode cL_law 1090 = .ok (.istore 7, 2) := by decide +kernel
theorem dL_law_1092 : decode cL_law 1092 = .ok (.aload_n 2, 1) := by decide +kernel
theorem dL_law_1093 : decode cL_law 1093 = .ok (.invokevirtual 120, 3) := by decide +kernel
theorem dL_law_1096 : decode cL_law 1096 = .ok (.iload 6, 2) := by decide +kernel
theorem dL_law_1098 : decode cL_law 1098 = .ok (.if_icmp .eq 5, 3) := by decide +kernel
theorem dL_law_1101 : decode cL_law 1101 = .ok (.iconst 0, 1) := by decide +kernel
theorem dL_law_1102 : decode cL_law 1102 = .ok (.ireturn, 1) := by decide +kernel
theorem dL_law_1103 : decode cL_law 1103 = .ok (.iload 6, 2) := by decide +kernel
theorem dL_law_1105 : decode cL_law 1105 = .ok (.ifCond .ne 15, 3) := by decide +kernel
theorem dL_law_1108 : decode cL_law 1108 = .ok (.aload_n 3, 1) := by decide +kernel
theorem dL_law_1109 : decode cL_law 1109 = .ok (.iconst 0, 1) := by decide +kernel
theorem dL_law_1110 : decode cL_law 1110 = .ok (.laload, 1) := by decide +kernel
theorem dL_law_1111 : decode cL_law 1111 = .ok (.iload 7, 2) := by decide +kernel
theorem dL_law_1113 : decode cL_law 1113 = .ok (.i2l, 1) := by decide +kernel
theorem dL_law_1114 : decode cL_law 1114 = .ok (.lcmp, 1) := by decide +kernel
theorem dL_law_1115 : decode cL_law 1115 = .ok (.ifCond .eq 5, 3) := by decide +kernel
theorem dL_law_1118 : decode cL_law 1118 = .ok (.iconst 0, 1) := by decide +kernel
theorem dL_law_1119 : decode cL_law 1119 = .ok (.ireturn, 1) := by decide +kernel
theorem dL_law_1120 : decode cL_law 1120 = .ok (.goto 766, 3) := by decide +kernel
theorem dL_law_1123 : decode cL_law 1123 = .ok (.aload_n 1, 1) := by decide +kernel
theorem dL_law_1124 : decode cL_law 1124 = .ok (.aload_n 0, 1) := by decide +kernel
theorem dL_law_1125 : decode cL_law 1125 = .ok (.iload 5, 2) := by decide +kernel
theorem dL_law_1127 : decode cL_law 1127 = .ok (.iconst 1, 1) := by decide +kernel
theorem dL_law_1128 : decode cL_law 1128 = .ok (.iadd, 1) := by decide +kernel
theorem dL_law_1129 : decode cL_law 1129 = .ok (.iaload, 1) := by decide +kernel
theorem dL_law_1130 : decode cL_law 1130 = .ok (.aload_n 0, 1) := by decide +kernel
theorem dL_law_1131 : decode cL_law 1131 = .ok (.iload 5, 2) := by decide +kernel
theorem dL_law_1133 : decode cL_law 1133 = .ok (.iconst 2, 1) := by decide +kernel
theorem dL_law_1134 : decode cL_law 1134 = .ok (.iadd, 1) := by decide +kernel
theorem dL_law_1135 : decode cL_law 1135 = .ok (.iaload, 1) := by decide +kernel
theorem dL_law_1136 : decode cL_law 1136 = .ok (.aload_n 0, 1) := by decide +kernel
theorem dL_law_1137 : decode cL_law 1137 = .ok (.iload 5, 2) := by decide +kernel
theorem dL_law_1139 : decode cL_law 1139 = .ok (.iconst 3, 1) := by decide +kernel
theorem dL_law_1140 : decode cL_law 1140 = .ok (.iadd, 1) := by decide +kernel
theorem dL_law_1141 : decode cL_law 1141 = .ok (.iaload, 1) := by decide +kernel
theorem dL_law_1142 : decode cL_law 1142 = .ok (.aload_n 0, 1) := by decide +kernel
theorem dL_law_1143 : decode cL_law 1143 = .ok (.iload 5, 2) := by decide +kernel
theorem dL_law_1145 : decode cL_law 1145 = .ok (.iconst 4, 1) := by decide +kernel
theorem dL_law_1146 : decode cL_law 1146 = .ok (.iadd, 1) := by decide +kernel
theorem dL_law_1147 : decode cL_law 1147 = .ok (.iaload, 1) := by decide +kernel
theorem dL_law_1148 : decode cL_law 1148 = .ok (.aload_n 3, 1) := by decide +kernel
theorem dL_law_1149 : decode cL_law 1149 = .ok (.invokestatic 180, 3) := by decide +kernel
theorem dL_law_1152 : decode cL_law 1152 = .ok (.istore 6, 2) := by decide +kernel
theorem dL_law_1154 : decode cL_law 1154 = .ok (.aload_n 2, 1) := by decide +kernel
theorem dL_law_1155 : decode cL_law 1155 = .ok (.aload_n 0, 1) := by decide +kernel
theorem dL_law_1156 : decode cL_law 1156 = .ok (.iload 5, 2) := by decide +kernel
theorem dL_law_1158 : decode cL_law 1158 = .ok (.iconst 1, 1) := by decide +kernel
theorem dL_law_1159 : decode cL_law 1159 = .ok (.iadd, 1) := by decide +kernel
theorem dL_law_1160 : decode cL_law 1160 = .ok (.iaload, 1) := by decide +kernel
theorem dL_law_1161 : decode cL_law 1161 = .ok (.aload_n 0, 1) := by decide +kernel
theorem dL_law_1162 : decode cL_law 1162 = .ok (.iload 5, 2) := by decide +kernel
theorem dL_law_1164 : decode cL_law 1164 = .ok (.iconst 2, 1) := by decide +kernel
theorem dL_law_1165 : decode cL_law 1165 = .ok (.iadd, 1) := by decide +kernel
theorem dL_law_1166 : decode cL_law 1166 = .ok (.iaload, 1) := by decide +kernel
theorem dL_law_1167 : decode cL_law 1167 = .ok (.aload_n 0, 1) := by decide +kernel
theorem dL_law_1168 : decode cL_law 1168 = .ok (.iload 5, 2) := by decide +kernel
theorem dL_law_1170 : decode cL_law 1170 = .ok (.iconst 3, 1) := by decide +kernel
theorem dL_law_1171 : decode cL_law 1171 = .ok (.iadd, 1) := by decide +kernel
theorem dL_law_1172 : decode cL_law 1172 = .ok (.iaload, 1) := by decide +kernel
theorem dL_law_1173 : decode cL_law 1173 = .ok (.aload_n 0, 1) := by decide +kernel
theorem dL_law_1174 : decode cL_law 1174 = .ok (.iload 5, 2) := by decide +kernel
theorem dL_law_1176 : decode cL_law 1176 = .ok (.iconst 4, 1) := by decide +kernel
theorem dL_law_1177 : decode cL_law 1177 = .ok (.iadd, 1) := by decide +kernel
theorem dL_law_1178 : decode cL_law 1178 = .ok (.iaload, 1) := by decide +kernel
theorem dL_law_1179 : decode cL_law 1179 = .ok (.invokevirtual 183, 3) := by decide +kernel
theorem dL_law_1182 : decode cL_law 1182 = .ok (.istore 7, 2) := by decide +kernel
theorem dL_law_1184 : decode cL_law 1184 = .ok (.aload_n 2, 1) := by decide +kernel
theorem dL_law_1185 : decode cL_law 1185 = .ok (.invokevirtual 120, 3) := by decide +kernel
theorem dL_law_1188 : decode cL_law 1188 = .ok (.iload 6, 2) := by decide +kernel
theorem dL_law_1190 : decode cL_law 1190 = .ok (.if_icmp .eq 5, 3) := by decide +kernel
theorem dL_law_1193 : decode cL_law 1193 = .ok (.iconst 0, 1) := by decide +kernel
theorem dL_law_1194 : decode cL_law 1194 = .ok (.ireturn, 1) := by decide +kernel
theorem dL_law_1195 : decode cL_law 1195 = .ok (.iload 6, 2) := by decide +kernel
theorem dL_law_1197 : decode cL_law 1197 = .ok (.ifCond .ne 15, 3) := by decide +kernel
theorem dL_law_1200 : decode cL_law 1200 = .ok (.aload_n 3, 1) := by decide +kernel
theorem dL_law_1201 : decode cL_law 1201 = .ok (.iconst 0, 1) := by decide +kernel
theorem dL_law_1202 : decode cL_law 1202 = .ok (.laload, 1) := by decide +kernel
theorem dL_law_1203 : decode cL_law 1203 = .ok (.iload 7, 2) := by decide +kernel
theorem dL_law_1205 : decode cL_law 1205 = .ok (.i2l, 1) := by decide +kernel
theorem dL_law_1206 : decode cL_law 1206 = .ok (.lcmp, 1) := by decide +kernel
theorem dL_law_1207 : decode cL_law 1207 = .ok (.ifCond .eq 5, 3) := by decide +kernel
theorem dL_law_1210 : decode cL_law 1210 = .ok (.iconst 0, 1) := by decide +kernel
theorem dL_law_1211 : decode cL_law 1211 = .ok (.ireturn, 1) := by decide +kernel
theorem dL_law_1212 : decode cL_law 1212 = .ok (.goto 674, 3) := by decide +kernel
theorem dL_law_1215 : decode cL_law 1215 = .ok (.aload_n 1, 1) := by decide +kernel
theorem dL_law_1216 : decode cL_law 1216 = .ok (.aload_n 0, 1) := by decide +kernel
theorem dL_law_1217 : decode cL_law 1217 = .ok (.iload 5, 2) := by decide +kernel
theorem dL_law_1219 : decode cL_law 1219 = .ok (.iconst 1, 1) := by decide +kernel
theorem dL_law_1220 : decode cL_law 1220 = .ok (.iadd, 1) := by decide +kernel
theorem dL_law_1221 : decode cL_law 1221 = .ok (.iaload, 1) := by decide +kernel
theorem dL_law_1222 : decode cL_law 1222 = .ok (.aload_n 0, 1) := by decide +kernel
theorem dL_law_1223 : decode cL_law 1223 = .ok (.iload 5, 2) := by decide +kernel
theorem dL_law_1225 : decode cL_law 1225 = .ok (.iconst 2, 1) := by decide +kernel
theorem dL_law_1226 : decode cL_law 1226 = .ok (.iadd, 1) := by decide +kernel
theorem dL_law_1227 : decode cL_law 1227 = .ok (.iaload, 1) := by decide +kernel
theorem dL_law_1228 : decode cL_law 1228 = .ok (.aload_n 0, 1) := by decide +kernel
theorem dL_law_1229 : decode cL_law 1229 = .ok (.iload 5, 2) := by decide +kernel
theorem dL_law_1231 : decode cL_law 1231 = .ok (.iconst 3, 1) := by decide +kernel
theorem dL_law_1232 : decode cL_law 1232 = .ok (.iadd, 1) := by decide +kernel
theorem dL_law_1233 : decode cL_law 1233 = .ok (.iaload, 1) := by decide +kernel
theorem dL_law_1234 : decode cL_law 1234 = .ok (.aload_n 3, 1) := by decide +kernel
theorem dL_law_1235 : decode cL_law 1235 = .ok (.invokestatic 184, 3) := by decide +kernel
theorem dL_law_1238 : decode cL_law 1238 = .ok (.istore 6, 2) := by decide +kernel
theorem dL_law_1240 : decode cL_law 1240 = .ok (.aload_n 2, 1) := by decide +kernel
theorem dL_law_1241 : decode cL_law 1241 = .ok (.aload_n 0, 1) := by decide +kernel
theorem dL_law_1242 : decode cL_law 1242 = .ok (.iload 5, 2) := by decide +kernel
theorem dL_law_1244 : decode cL_law 1244 = .ok (.iconst 1, 1) := by decide +kernel
theorem dL_law_1245 : decode cL_law 1245 = .ok (.iadd, 1) := by decide +kernel
theorem dL_law_1246 : decode cL_law 1246 = .ok (.iaload, 1) := by decide +kernel
theorem dL_law_1247 : decode cL_law 1247 = .ok (.aload_n 0, 1) := by decide +kernel
theorem dL_law_1248 : decode cL_law 1248 = .ok (.iload 5, 2) := by decide +kernel
theorem dL_law_1250 : decode cL_law 1250 = .ok (.iconst 2, 1) := by decide +kernel
theorem dL_law_1251 : decode cL_law 1251 = .ok (.iadd, 1) := by decide +kernel
theorem dL_law_1252 : decode cL_law 1252 = .ok (.iaload, 1) := by decide +kernel
theorem dL_law_1253 : decode cL_law 1253 = .ok (.aload_n 0, 1) := by decide +kernel
theorem dL_law_1254 : decode cL_law 1254 = .ok (.iload 5, 2) := by decide +kernel
theorem dL_law_1256 : decode cL_law 1256 = .ok (.iconst 3, 1) := by decide +kernel
theorem dL_law_1257 : decode cL_law 1257 = .ok (.iadd, 1) := by decide +kernel
theorem dL_law_1258 : decode cL_law 1258 = .ok (.iaload, 1) := by decide +kernel
theorem dL_law_1259 : decode cL_law 1259 = .ok (.invokevirtual 186, 3) := by decide +kernel
theorem dL_law_1262 : decode cL_law 1262 = .ok (.istore 7, 2) := by decide +kernel
theorem dL_law_1264 : decode cL_law 1264 = .ok (.aload_n 2, 1) := by decide +kernel
theorem dL_law_1265 : decode cL_law 1265 = .ok (.invokevirtual 120, 3) := by decide +kernel
theorem dL_law_1268 : decode cL_law 1268 = .ok (.iload 6, 2) := by decide +kernel
theorem dL_law_1270 : decode cL_law 1270 = .ok (.if_icmp .eq 5, 3) := by decide +kernel
theorem dL_law_1273 : decode cL_law 1273 = .ok (.iconst 0, 1) := by decide +kernel
theorem dL_law_1274 : decode cL_law 1274 = .ok (.ireturn, 1) := by decide +kernel
theorem dL_law_1275 : decode cL_law 1275 = .ok (.iload 6, 2) := by decide +kernel
theorem dL_law_1277 : decode cL_law 1277 = .ok (.ifCond .ne 15, 3) := by decide +kernel
theorem dL_law_1280 : decode cL_law 1280 = .ok (.aload_n 3, 1) := by decide +kernel
theorem dL_law_1281 : decode cL_law 1281 = .ok (.iconst 0, 1) := by decide +kernel
theorem dL_law_1282 : decode cL_law 1282 = .ok (.laload, 1) := by decide +kernel
theorem dL_law_1283 : decode cL_law 1283 = .ok (.iload 7, 2) := by decide +kernel
theorem dL_law_1285 : decode cL_law 1285 = .ok (.i2l, 1) := by decide +kernel
theorem dL_law_1286 : decode cL_law 1286 = .ok (.lcmp, 1) := by decide +kernel
theorem dL_law_1287 : decode cL_law 1287 = .ok (.ifCond .eq 5, 3) := by decide +kernel
theorem dL_law_1290 : decode cL_law 1290 = .ok (.iconst 0, 1) := by decide +kernel
theorem dL_law_1291 : decode cL_law 1291 = .ok (.ireturn, 1) := by decide +kernel
theorem dL_law_1292 : decode cL_law 1292 = .ok (.goto 594, 3) := by decide +kernel
theorem dL_law_1295 : decode cL_law 1295 = .ok (.aload_n 1, 1) := by decide +kernel
theorem dL_law_1296 : decode cL_law 1296 = .ok (.aload_n 0, 1) := by decide +kernel
theorem dL_law_1297 : decode cL_law 1297 = .ok (.iload 5, 2) := by decide +kernel
theorem dL_law_1299 : decode cL_law 1299 = .ok (.iconst 1, 1) := by decide +kernel
theorem dL_law_1300 : decode cL_law 1300 = .ok (.iadd, 1) := by decide +kernel
theorem dL_law_1301 : decode cL_law 1301 = .ok (.iaload, 1) := by decide +kernel
theorem dL_law_1302 : decode cL_law 1302 = .ok (.aload_n 3, 1) := by decide +kernel
theorem dL_law_1303 : decode cL_law 1303 = .ok (.invokestatic 187, 3) := by decide +kernel
theorem dL_law_1306 : decode cL_law 1306 = .ok (.istore 6, 2) := by decide +kernel
theorem dL_law_1308 : decode cL_law 1308 = .ok (.aload_n 2, 1) := by decide +kernel
theorem dL_law_1309 : decode cL_law 1309 = .ok (.aload_n 0, 1) := by decide +kernel
theorem dL_law_1310 : decode cL_law 1310 = .ok (.iload 5, 2) := by decide +kernel
theorem dL_law_1312 : decode cL_law 1312 = .ok (.iconst 1, 1) := by decide +kernel
theorem dL_law_1313 : decode cL_law 1313 = .ok (.iadd, 1) := by decide +kernel
theorem dL_law_1314 : decode cL_law 1314 = .ok (.iaload, 1) := by decide +kernel
theorem dL_law_1315 : decode cL_law 1315 = .ok (.invokevirtual 189, 3) := by decide +kernel
theorem dL_law_1318 : decode cL_law 1318 = .ok (.istore 7, 2) := by decide +kernel
theorem dL_law_1320 : decode cL_law 1320 = .ok (.aload_n 2, 1) := by decide +kernel
theorem dL_law_1321 : decode cL_law 1321 = .ok (.invokevirtual 120, 3) := by decide +kernel
theorem dL_law_1324 : decode cL_law 1324 = .ok (.iload 6, 2) := by decide +kernel
theorem dL_law_1326 : decode cL_law 1326 = .ok (.if_icmp .eq 5, 3) := by decide +kernel
theorem dL_law_1329 : decode cL_law 1329 = .ok (.iconst 0, 1) := by decide +kernel
theorem dL_law_1330 : decode cL_law 1330 = .ok (.ireturn, 1) := by decide +kernel
theorem dL_law_1331 : decode cL_law 1331 = .ok (.iload 6, 2) := by decide +kernel
theorem dL_law_1333 : decode cL_law 1333 = .ok (.ifCond .ne 15, 3) := by decide +kernel
theorem dL_law_1336 : decode cL_law 1336 = .ok (.aload_n 3, 1) := by decide +kernel
theorem dL_law_1337 : decode cL_law 1337 = .ok (.iconst 0, 1) := by decide +kernel
theorem dL_law_1338 : decode cL_law 1338 = .ok (.laload, 1) := by decide +kernel
theorem dL_law_1339 : decode cL_law 1339 = .ok (.iload 7, 2) := by decide +kernel
theorem dL_law_1341 : decode cL_law 1341 = .ok (.i2l, 1) := by decide +kernel
theorem dL_law_1342 : decode cL_law 1342 = .ok (.lcmp, 1) := by decide +kernel
theorem dL_law_1343 : decode cL_law 1343 = .ok (.ifCond .eq 5, 3) := by decide +kernel
theorem dL_law_1346 : decode cL_law 1346 = .ok (.iconst 0, 1) := by decide +kernel
theorem dL_law_1347 : decode cL_law 1347 = .ok (.ireturn, 1) := by decide +kernel
theorem dL_law_1348 : decode cL_law 1348 = .ok (.goto 538, 3) := by decide +kernel
theorem dL_law_1351 : decode cL_law 1351 = .ok (.aload_n 1, 1) := by decide +kernel
theorem dL_law_1352 : decode cL_law 1352 = .ok (.aload_n 0, 1) := by decide +kernel
theorem dL_law_1353 : decode cL_law 1353 = .ok (.iload 5, 2) := by decide +kernel
theorem dL_law_1355 : decode cL_law 1355 = .ok (.iconst 1, 1) := by decide +kernel
theorem dL_law_1356 : decode cL_law 1356 = .ok (.iadd, 1) := by decide +kernel
theorem dL_law_1357 : decode cL_law 1357 = .ok (.iaload, 1) := by decide +kernel
theorem dL_law_1358 : decode cL_law 1358 = .ok (.aload_n 3, 1) := by decide +kernel
theorem dL_law_1359 : decode cL_law 1359 = .ok (.invokestatic 190, 3) := by decide +kernel
theorem dL_law_1362 : decode cL_law 1362 = .ok (.istore 6, 2) := by decide +kernel
theorem dL_law_1364 : decode cL_law 1364 = .ok (.aload_n 2, 1) := by decide +kernel
theorem dL_law_1365 : decode cL_law 1365 = .ok (.aload_n 0, 1) := by decide +kernel
theorem dL_law_1366 : decode cL_law 1366 = .ok (.iload 5, 2) := by decide +kernel
theorem dL_law_1368 : decode cL_law 1368 = .ok (.iconst 1, 1) := by decide +kernel
theorem dL_law_1369 : decode cL_law 1369 = .ok (.iadd, 1) := by decide +kernel
theorem dL_law_1370 : decode cL_law 1370 = .ok (.iaload, 1) := by decide +kernel
theorem dL_law_1371 : decode cL_law 1371 = .ok (.invokevirtual 192, 3) := by decide +kernel
theorem dL_law_1374 : decode cL_law 1374 = .ok (.istore 7, 2) := by decide +kernel
theorem dL_law_1376 : decode cL_law 1376 = .ok (.aload_n 2, 1) := by decide +kernel
theorem dL_law_1377 : decode cL_law 1377 = .ok (.invokevirtual 120, 3) := by decide +kernel
theorem dL_law_1380 : decode cL_law 1380 = .ok (.iload 6, 2) := by decide +kernel
theorem dL_law_1382 : decode cL_law 1382 = .ok (.if_icmp .eq 5, 3) := by decide +kernel
theorem dL_law_1385 : decode cL_law 1385 = .ok (.iconst 0, 1) := by decide +kernel
theorem dL_law_1386 : decode cL_law 1386 = .ok (.ireturn, 1) := by decide +kernel
theorem dL_law_1387 : decode cL_law 1387 = .ok (.iload 6, 2) := by decide +kernel
theorem dL_law_1389 : decode cL_law 1389 = .ok (.ifCond .ne 15, 3) := by decide +kernel
theorem dL_law_1392 : decode cL_law 1392 = .ok (.aload_n 3, 1) := by decide +kernel
theorem dL_law_1393 : decode cL_law 1393 = .ok (.iconst 0, 1) := by decide +kernel
theorem dL_law_1394 : decode cL_law 1394 = .ok (.laload, 1) := by decide +kernel
theorem dL_law_1395 : decode cL_law 1395 = .ok (.iload 7, 2) := by decide +kernel
theorem dL_law_1397 : decode cL_law 1397 = .ok (.i2l, 1) := by decide +kernel
theorem dL_law_1398 : decode cL_law 1398 = .ok (.lcmp, 1) := by decide +kernel
theorem dL_law_1399 : decode cL_law 1399 = .ok (.ifCond .eq 5, 3) := by decide +kernel
theorem dL_law_1402 : decode cL_law 1402 = .ok (.iconst 0, 1) := by decide +kernel
theorem dL_law_1403 : decode cL_law 1403 = .ok (.ireturn, 1) := by decide +kernel
theorem dL_law_1404 : decode cL_law 1404 = .ok (.goto 482, 3) := by decide +kernel
theorem dL_law_1407 : decode cL_law 1407 = .ok (.aload_n 1, 1) := by decide +kernel
theorem dL_law_1408 : decode cL_law 1408 = .ok (.aload_n 0, 1) := by decide +kernel
theorem dL_law_1409 : decode cL_law 1409 = .ok (.iload 5, 2) := by decide +kernel
theorem dL_law_1411 : decode cL_law 1411 = .ok (.iconst 1, 1) := by decide +kernel
theorem dL_law_1412 : decode cL_law 1412 = .ok (.iadd, 1) := by decide +kernel
theorem dL_law_1413 : decode cL_law 1413 = .ok (.iaload, 1) := by decide +kernel
theorem dL_law_1414 : decode cL_law 1414 = .ok (.aload_n 3, 1) := by decide +kernel
theorem dL_law_1415 : decode cL_law 1415 = .ok (.invokestatic 193, 3) := by decide +kernel
theorem dL_law_1418 : decode cL_law 1418 = .ok (.istore 6, 2) := by decide +kernel
theorem dL_law_1420 : decode cL_law 1420 = .ok (.aload_n 2, 1) := by decide +kernel
theorem dL_law_1421 : decode cL_law 1421 = .ok (.aload_n 0, 1) := by decide +kernel
theorem dL_law_1422 : decode cL_law 1422 = .ok (.iload 5, 2) := by decide +kernel
theorem dL_law_1424 : decode cL_law 1424 = .ok (.iconst 1, 1) := by decide +kernel
theorem dL_law_1425 : decode cL_law 1425 = .ok (.iadd, 1) := by decide +kernel
theorem dL_law_1426 : decode cL_law 1426 = .ok (.iaload, 1) := by decide +kernel
theorem dL_law_1427 : decode cL_law 1427 = .ok (.invokevirtual 195, 3) := by decide +kernel
theorem dL_law_1430 : decode cL_law 1430 = .ok (.istore 7, 2) := by decide +kernel
theorem dL_law_1432 : decode cL_law 1432 = .ok (.aload_n 2, 1) := by decide +kernel
theorem dL_law_1433 : decode cL_law 1433 = .ok (.invokevirtual 120, 3) := by decide +kernel
theorem dL_law_1436 : decode cL_law 1436 = .ok (.iload 6, 2) := by decide +kernel
theorem dL_law_1438 : decode cL_law 1438 = .ok (.if_icmp .eq 5, 3) := by decide +kernel
theorem dL_law_1441 : decode cL_law 1441 = .ok (.iconst 0, 1) := by decide +kernel
theorem dL_law_1442 : decode cL_law 1442 = .ok (.ireturn, 1) := by decide +kernel
theorem dL_law_1443 : decode cL_law 1443 = .ok (.iload 6, 2) := by decide +kernel
theorem dL_law_1445 : decode cL_law 1445 = .ok (.ifCond .ne 15, 3) := by decide +kernel
theorem dL_law_1448 : decode cL_law 1448 = .ok (.aload_n 3, 1) := by decide +kernel
theorem dL_law_1449 : decode cL_law 1449 = .ok (.iconst 0, 1) := by decide +kernel
theorem dL_law_1450 : decode cL_law 1450 = .ok (.laload, 1) := by decide +kernel
theorem dL_law_1451 : decode cL_law 1451 = .ok (.iload 7, 2) := by decide +kernel
theorem dL_law_1453 : decode cL_law 1453 = .ok (.i2l, 1) := by decide +kernel
theorem dL_law_1454 : decode cL_law 1454 = .ok (.lcmp, 1) := by decide +kernel
theorem dL_law_1455 : decode cL_law 1455 = .ok (.ifCond .eq 5, 3) := by decide +kernel
theorem dL_law_1458 : decode cL_law 1458 = .ok (.iconst 0, 1) := by decide +kernel
theorem dL_law_1459 : decode cL_law 1459 = .ok (.ireturn, 1) := by decide +kernel
theorem dL_law_1460 : decode cL_law 1460 = .ok (.goto 426, 3) := by decide +kernel
theorem dL_law_1463 : decode cL_law 1463 = .ok (.aload_n 1, 1) := by decide +kernel
theorem dL_law_1464 : decode cL_law 1464 = .ok (.aload_n 0, 1) := by decide +kernel
theorem dL_law_1465 : decode cL_law 1465 = .ok (.iload 5, 2) := by decide +kernel
theorem dL_law_1467 : decode cL_law 1467 = .ok (.iconst 1, 1) := by decide +kernel
theorem dL_law_1468 : decode cL_law 1468 = .ok (.iadd, 1) := by decide +kernel
theorem dL_law_1469 : decode cL_law 1469 = .ok (.iaload, 1) := by decide +kernel
theorem dL_law_1470 : decode cL_law 1470 = .ok (.aload_n 3, 1) := by decide +kernel
theorem dL_law_1471 : decode cL_law 1471 = .ok (.invokestatic 196, 3) := by decide +kernel
theorem dL_law_1474 : decode cL_law 1474 = .ok (.istore 6, 2) := by decide +kernel
theorem dL_law_1476 : decode cL_law 1476 = .ok (.aload_n 2, 1) := by decide +kernel
theorem dL_law_1477 : decode cL_law 1477 = .ok (.aload_n 0, 1) := by decide +kernel
theorem dL_law_1478 : decode cL_law 1478 = .ok (.iload 5, 2) := by decide +kernel
theorem dL_law_1480 : decode cL_law 1480 = .ok (.iconst 1, 1) := by decide +kernel
theorem dL_law_1481 : decode cL_law 1481 = .ok (.iadd, 1) := by decide +kernel
theorem dL_law_1482 : decode cL_law 1482 = .ok (.iaload, 1) := by decide +kernel
theorem dL_law_1483 : decode cL_law 1483 = .ok (.invokevirtual 198, 3) := by decide +kernel
theorem dL_law_1486 : decode cL_law 1486 = .ok (.istore 7, 2) := by decide +kernel
theorem dL_law_1488 : decode cL_law 1488 = .ok (.aload_n 2, 1) := by decide +kernel
theorem dL_law_1489 : decode cL_law 1489 = .ok (.invokevirtual 120, 3) := by decide +kernel
theorem dL_law_1492 : decode cL_law 1492 = .ok (.iload 6, 2) := by decide +kernel
theorem dL_law_1494 : decode cL_law 1494 = .ok (.if_icmp .eq 5, 3) := by decide +kernel
theorem dL_law_1497 : decode cL_law 1497 = .ok (.iconst 0, 1) := by decide +kernel
theorem dL_law_1498 : decode cL_law 1498 = .ok (.ireturn, 1) := by decide +kernel
theorem dL_law_1499 : decode cL_law 1499 = .ok (.iload 6, 2) := by decide +kernel
theorem dL_law_1501 : decode cL_law 1501 = .ok (.ifCond .ne 15, 3) := by decide +kernel
theorem dL_law_1504 : decode cL_law 1504 = .ok (.aload_n 3, 1) := by decide +kernel
theorem dL_law_1505 : decode cL_law 1505 = .ok (.iconst 0, 1) := by decide +kernel
theorem dL_law_1506 : decode cL_law 1506 = .ok (.laload, 1) := by decide +kernel
theorem dL_law_1507 : decode cL_law 1507 = .ok (.iload 7, 2) := by decide +kernel
theorem dL_law_1509 : decode cL_law 1509 = .ok (.i2l, 1) := by decide +kernel
theorem dL_law_1510 : decode cL_law 1510 = .ok (.lcmp, 1) := by decide +kernel
theorem dL_law_1511 : decode cL_law 1511 = .ok (.ifCond .eq 5, 3) := by decide +kernel
theorem dL_law_1514 : decode cL_law 1514 = .ok (.iconst 0, 1) := by decide +kernel
theorem dL_law_1515 : decode cL_law 1515 = .ok (.ireturn, 1) := by decide +kernel
theorem dL_law_1516 : decode cL_law 1516 = .ok (.goto 370, 3) := by decide +kernel
theorem dL_law_1519 : decode cL_law 1519 = .ok (.aload_n 1, 1) := by decide +kernel
theorem dL_law_1520 : decode cL_law 1520 = .ok (.aload_n 0, 1) := by decide +kernel
theorem dL_law_1521 : decode cL_law 1521 = .ok (.iload 5, 2) := by decide +kernel
theorem dL_law_1523 : decode cL_law 1523 = .ok (.iconst 1, 1) := by decide +kernel
theorem dL_law_1524 : decode cL_law 1524 = .ok (.iadd, 1) := by decide +kernel
theorem dL_law_1525 : decode cL_law 1525 = .ok (.iaload, 1) := by decide +kernel
theorem dL_law_1526 : decode cL_law 1526 = .ok (.aload_n 3, 1) := by decide +kernel
theorem dL_law_1527 : decode cL_law 1527 = .ok (.invokestatic 199, 3) := by decide +kernel
theorem dL_law_1530 : decode cL_law 1530 = .ok (.istore 6, 2) := by decide +kernel
theorem dL_law_1532 : decode cL_law 1532 = .ok (.aload_n 2, 1) := by decide +kernel
theorem dL_law_1533 : decode cL_law 1533 = .ok (.aload_n 0, 1) := by decide +kernel
theorem dL_law_1534 : decode cL_law 1534 = .ok (.iload 5, 2) := by decide +kernel
theorem dL_law_1536 : decode cL_law 1536 = .ok (.iconst 1, 1) := by decide +kernel
theorem dL_law_1537 : decode cL_law 1537 = .ok (.iadd, 1) := by decide +kernel
theorem dL_law_1538 : decode cL_law 1538 = .ok (.iaload, 1) := by decide +kernel
theorem dL_law_1539 : decode cL_law 1539 = .ok (.invokevirtual 201, 3) := by decide +kernel
theorem dL_law_1542 : decode cL_law 1542 = .ok (.istore 7, 2) := by decide +kernel
theorem dL_law_1544 : decode cL_law 1544 = .ok (.aload_n 2, 1) := by decide +kernel
theorem dL_law_1545 : decode cL_law 1545 = .ok (.invokevirtual 120, 3) := by decide +kernel
theorem dL_law_1548 : decode cL_law 1548 = .ok (.iload 6, 2) := by decide +kernel
theorem dL_law_1550 : decode cL_law 1550 = .ok (.if_icmp .eq 5, 3) := by decide +kernel
theorem dL_law_1553 : decode cL_law 1553 = .ok (.iconst 0, 1) := by decide +kernel
theorem dL_law_1554 : decode cL_law 1554 = .ok (.ireturn, 1) := by decide +kernel
theorem dL_law_1555 : decode cL_law 1555 = .ok (.iload 6, 2) := by decide +kernel
theorem dL_law_1557 : decode cL_law 1557 = .ok (.ifCond .ne 15, 3) := by decide +kernel
theorem dL_law_1560 : decode cL_law 1560 = .ok (.aload_n 3, 1) := by decide +kernel
theorem dL_law_1561 : decode cL_law 1561 = .ok (.iconst 0, 1) := by decide +kernel
theorem dL_law_1562 : decode cL_law 1562 = .ok (.laload, 1) := by decide +kernel
theorem dL_law_1563 : decode cL_law 1563 = .ok (.iload 7, 2) := by decide +kernel
theorem dL_law_1565 : decode cL_law 1565 = .ok (.i2l, 1) := by decide +kernel
theorem dL_law_1566 : decode cL_law 1566 = .ok (.lcmp, 1) := by decide +kernel
theorem dL_law_1567 : decode cL_law 1567 = .ok (.ifCond .eq 5, 3) := by decide +kernel
theorem dL_law_1570 : decode cL_law 1570 = .ok (.iconst 0, 1) := by decide +kernel
theorem dL_law_1571 : decode cL_law 1571 = .ok (.ireturn, 1) := by decide +kernel
theorem dL_law_1572 : decode cL_law 1572 = .ok (.goto 314, 3) := by decide +kernel
theorem dL_law_1575 : decode cL_law 1575 = .ok (.aload_n 1, 1) := by decide +kernel
theorem dL_law_1576 : decode cL_law 1576 = .ok (.aload_n 0, 1) := by decide +kernel
theorem dL_law_1577 : decode cL_law 1577 = .ok (.iload 5, 2) := by decide +kernel
theorem dL_law_1579 : decode cL_law 1579 = .ok (.iconst 1, 1) := by decide +kernel
theorem dL_law_1580 : decode cL_law 1580 = .ok (.iadd, 1) := by decide +kernel
theorem dL_law_1581 : decode cL_law 1581 = .ok (.iaload, 1) := by decide +kernel
theorem dL_law_1582 : decode cL_law 1582 = .ok (.aload_n 3, 1) := by decide +kernel
theorem dL_law_1583 : decode cL_law 1583 = .ok (.invokestatic 202, 3) := by decide +kernel
theorem dL_law_1586 : decode cL_law 1586 = .ok (.istore 6, 2) := by decide +kernel
theorem dL_law_1588 : decode cL_law 1588 = .ok (.aload_n 2, 1) := by decide +kernel
theorem dL_law_1589 : decode cL_law 1589 = .ok (.aload_n 0, 1) := by decide +kernel
theorem dL_law_1590 : decode cL_law 1590 = .ok (.iload 5, 2) := by decide +kernel
theorem dL_law_1592 : decode cL_law 1592 = .ok (.iconst 1, 1) := by decide +kernel
theorem dL_law_1593 : decode cL_law 1593 = .ok (.iadd, 1) := by decide +kernel
theorem dL_law_1594 : decode cL_law 1594 = .ok (.iaload, 1) := by decide +kernel
theorem dL_law_1595 : decode cL_law 1595 = .ok (.invokevirtual 204, 3) := by decide +kernel
theorem dL_law_1598 : decode cL_law 1598 = .ok (.istore 7, 2) := by decide +kernel
theorem dL_law_1600 : decode cL_law 1600 = .ok (.aload_n 2, 1) := by decide +kernel
theorem dL_law_1601 : decode cL_law 1601 = .ok (.invokevirtual 120, 3) := by decide +kernel
theorem dL_law_1604 : decode cL_law 1604 = .ok (.iload 6, 2) := by decide +kernel
theorem dL_law_1606 : decode cL_law 1606 = .ok (.if_icmp .eq 5, 3) := by decide +kernel
theorem dL_law_1609 : decode cL_law 1609 = .ok (.iconst 0, 1) := by decide +kernel
theorem dL_law_1610 : decode cL_law 1610 = .ok (.ireturn, 1) := by decide +kernel
theorem dL_law_1611 : decode cL_law 1611 = .ok (.iload 6, 2) := by decide +kernel
theorem dL_law_1613 : decode cL_law 1613 = .ok (.ifCond .ne 15, 3) := by decide +kernel
theorem dL_law_1616 : decode cL_law 1616 = .ok (.aload_n 3, 1) := by decide +kernel
theorem dL_law_1617 : decode cL_law 1617 = .ok (.iconst 0, 1) := by decide +kernel
theorem dL_law_1618 : decode cL_law 1618 = .ok (.laload, 1) := by decide +kernel
theorem dL_law_1619 : decode cL_law 1619 = .ok (.iload 7, 2) := by decide +kernel
theorem dL_law_1621 : decode cL_law 1621 = .ok (.i2l, 1) := by decide +kernel
theorem dL_law_1622 : decode cL_law 1622 = .ok (.lcmp, 1) := by decide +kernel
theorem dL_law_1623 : decode cL_law 1623 = .ok (.ifCond .eq 5, 3) := by decide +kernel
theorem dL_law_1626 : decode cL_law 1626 = .ok (.iconst 0, 1) := by decide +kernel
theorem dL_law_1627 : decode cL_law 1627 = .ok (.ireturn, 1) := by decide +kernel
theorem dL_law_1628 : decode cL_law 1628 = .ok (.goto 258, 3) := by decide +kernel
theorem dL_law_1631 : decode cL_law 1631 = .ok (.aload_n 1, 1) := by decide +kernel
theorem dL_law_1632 : decode cL_law 1632 = .ok (.aload_n 0, 1) := by decide +kernel
theorem dL_law_1633 : decode cL_law 1633 = .ok (.iload 5, 2) := by decide +kernel
theorem dL_law_1635 : decode cL_law 1635 = .ok (.iconst 1, 1) := by decide +kernel
theorem dL_law_1636 : decode cL_law 1636 = .ok (.iadd, 1) := by decide +kernel
theorem dL_law_1637 : decode cL_law 1637 = .ok (.iaload, 1) := by decide +kernel
theorem dL_law_1638 : decode cL_law 1638 = .ok (.aload_n 3, 1) := by decide +kernel
theorem dL_law_1639 : decode cL_law 1639 = .ok (.invokestatic 205, 3) := by decide +kernel
theorem dL_law_1642 : decode cL_law 1642 = .ok (.istore 6, 2) := by decide +kernel
theorem dL_law_1644 : decode cL_law 1644 = .ok (.aload_n 2, 1) := by decide +kernel
theorem dL_law_1645 : decode cL_law 1645 = .ok (.aload_n 0, 1) := by decide +kernel
theorem dL_law_1646 : decode cL_law 1646 = .ok (.iload 5, 2) := by decide +kernel
theorem dL_law_1648 : decode cL_law 1648 = .ok (.iconst 1, 1) := by decide +kernel
theorem dL_law_1649 : decode cL_law 1649 = .ok (.iadd, 1) := by decide +kernel
theorem dL_law_1650 : decode cL_law 1650 = .ok (.iaload, 1) := by decide +kernel
theorem dL_law_1651 : decode cL_law 1651 = .ok (.invokevirtual 207, 3) := by decide +kernel
theorem dL_law_1654 : decode cL_law 1654 = .ok (.istore 7, 2) := by decide +kernel
theorem dL_law_1656 : decode cL_law 1656 = .ok (.aload_n 2, 1) := by decide +kernel
theorem dL_law_1657 : decode cL_law 1657 = .ok (.invokevirtual 120, 3) := by decide +kernel
theorem dL_law_1660 : decode cL_law 1660 = .ok (.iload 6, 2) := by decide +kernel
theorem dL_law_1662 : decode cL_law 1662 = .ok (.if_icmp .eq 5, 3) := by decide +kernel
theorem dL_law_1665 : decode cL_law 1665 = .ok (.iconst 0, 1) := by decide +kernel
theorem dL_law_1666 : decode cL_law 1666 = .ok (.ireturn, 1) := by decide +kernel
theorem dL_law_1667 : decode cL_law 1667 = .ok (.iload 6, 2) := by decide +kernel
theorem dL_law_1669 : decode cL_law 1669 = .ok (.ifCond .ne 15, 3) := by decide +kernel
theorem dL_law_1672 : decode cL_law 1672 = .ok (.aload_n 3, 1) := by decide +kernel
theorem dL_law_1673 : decode cL_law 1673 = .ok (.iconst 0, 1) := by decide +kernel
theorem dL_law_1674 : decode cL_law 1674 = .ok (.laload, 1) := by decide +kernel
theorem dL_law_1675 : decode cL_law 1675 = .ok (.iload 7, 2) := by decide +kernel
theorem dL_law_1677 : decode cL_law 1677 = .ok (.i2l, 1) := by decide +kernel
theorem dL_law_1678 : decode cL_law 1678 = .ok (.lcmp, 1) := by decide +kernel
theorem dL_law_1679 : decode cL_law 1679 = .ok (.ifCond .eq 5, 3) := by decide +kernel
theorem dL_law_1682 : decode cL_law 1682 = .ok (.iconst 0, 1) := by decide +kernel
theorem dL_law_1683 : decode cL_law 1683 = .ok (.ireturn, 1) := by decide +kernel
theorem dL_law_1684 : decode cL_law 1684 = .ok (.goto 202, 3) := by decide +kernel
theorem dL_law_1687 : decode cL_law 1687 = .ok (.aload_n 1, 1) := by decide +kernel
theorem dL_law_1688 : decode cL_law 1688 = .ok (.aload_n 0, 1) := by decide +kernel
theorem dL_law_1689 : decode cL_law 1689 = .ok (.iload 5, 2) := by decide +kernel
theorem dL_law_1691 : decode cL_law 1691 = .ok (.iconst 1, 1) := by decide +kernel
theorem dL_law_1692 : decode cL_law 1692 = .ok (.iadd, 1) := by decide +kernel
theorem dL_law_1693 : decode cL_law 1693 = .ok (.iaload, 1) := by decide +kernel
theorem dL_law_1694 : decode cL_law 1694 = .ok (.aload_n 3, 1) := by decide +kernel
theorem dL_law_1695 : decode cL_law 1695 = .ok (.invokestatic 208, 3) := by decide +kernel
theorem dL_law_1698 : decode cL_law 1698 = .ok (.istore 6, 2) := by decide +kernel
theorem dL_law_1700 : decode cL_law 1700 = .ok (.aload_n 2, 1) := by decide +kernel
theorem dL_law_1701 : decode cL_law 1701 = .ok (.aload_n 0, 1) := by decide +kernel
theorem dL_law_1702 : decode cL_law 1702 = .ok (.iload 5, 2) := by decide +kernel
theorem dL_law_1704 : decode cL_law 1704 = .ok (.iconst 1, 1) := by decide +kernel
theorem dL_law_1705 : decode cL_law 1705 = .ok (.iadd, 1) := by decide +kernel
theorem dL_law_1706 : decode cL_law 1706 = .ok (.iaload, 1) := by decide +kernel
theorem dL_law_1707 : decode cL_law 1707 = .ok (.invokevirtual 210, 3) := by decide +kernel
theorem dL_law_1710 : decode cL_law 1710 = .ok (.lstore 7, 2) := by decide +kernel
theorem dL_law_1712 : decode cL_law 1712 = .ok (.aload_n 2, 1) := by decide +kernel
theorem dL_law_1713 : decode cL_law 1713 = .ok (.invokevirtual 120, 3) := by decide +kernel
theorem dL_law_1716 : decode cL_law 1716 = .ok (.iload 6, 2) := by decide +kernel
theorem dL_law_1718 : decode cL_law 1718 = .ok (.if_icmp .eq 5, 3) := by decide +kernel
theorem dL_law_1721 : decode cL_law 1721 = .ok (.iconst 0, 1) := by decide +kernel
theorem dL_law_1722 : decode cL_law 1722 = .ok (.ireturn, 1) := by decide +kernel
theorem dL_law_1723 : decode cL_law 1723 = .ok (.iload 6, 2) := by decide +kernel
theorem dL_law_1725 : decode cL_law 1725 = .ok (.ifCond .ne 14, 3) := by decide +kernel
theorem dL_law_1728 : decode cL_law 1728 = .ok (.aload_n 3, 1) := by decide +kernel
theorem dL_law_1729 : decode cL_law 1729 = .ok (.iconst 0, 1) := by decide +kernel
theorem dL_law_1730 : decode cL_law 1730 = .ok (.laload, 1) := by decide +kernel
theorem dL_law_1731 : decode cL_law 1731 = .ok (.lload 7, 2) := by decide +kernel
theorem dL_law_1733 : decode cL_law 1733 = .ok (.lcmp, 1) := by decide +kernel
theorem dL_law_1734 : decode cL_law 1734 = .ok (.ifCond .eq 5, 3) := by decide +kernel
theorem dL_law_1737 : decode cL_law 1737 = .ok (.iconst 0, 1) := by decide +kernel
theorem dL_law_1738 : decode cL_law 1738 = .ok (.ireturn, 1) := by decide +kernel
theorem dL_law_1739 : decode cL_law 1739 = .ok (.goto 147, 3) := by decide +kernel
theorem dL_law_1742 : decode cL_law 1742 = .ok (.aload_n 1, 1) := by decide +kernel
theorem dL_law_1743 : decode cL_law 1743 = .ok (.aload 4, 2) := by decide +kernel
theorem dL_law_1745 : decode cL_law 1745 = .ok (.invokestatic 211, 3) := by decide +kernel
theorem dL_law_1748 : decode cL_law 1748 = .ok (.istore 6, 2) := by decide +kernel
theorem dL_law_1750 : decode cL_law 1750 = .ok (.aload_n 2, 1) := by decide +kernel
theorem dL_law_1751 : decode cL_law 1751 = .ok (.invokevirtual 214, 3) := by decide +kernel
theorem dL_law_1754 : decode cL_law 1754 = .ok (.fstore 7, 2) := by decide +kernel
theorem dL_law_1756 : decode cL_law 1756 = .ok (.aload_n 2, 1) := by decide +kernel
theorem dL_law_1757 : decode cL_law 1757 = .ok (.invokevirtual 120, 3) := by decide +kernel
theorem dL_law_1760 : decode cL_law 1760 = .ok (.iload 6, 2) := by decide +kernel
theorem dL_law_1762 : decode cL_law 1762 = .ok (.if_icmp .eq 5, 3) := by decide +kernel
theorem dL_law_1765 : decode cL_law 1765 = .ok (.iconst 0, 1) := by decide +kernel
theorem dL_law_1766 : decode cL_law 1766 = .ok (.ireturn, 1) := by decide +kernel
theorem dL_law_1767 : decode cL_law 1767 = .ok (.iload 6, 2) := by decide +kernel
theorem dL_law_1769 : decode cL_law 1769 = .ok (.ifCond .ne 36, 3) := by decide +kernel
theorem dL_law_1772 : decode cL_law 1772 = .ok (.aload 4, 2) := by decide +kernel
theorem dL_law_1774 : decode cL_law 1774 = .ok (.iconst 0, 1) := by decide +kernel
theorem dL_law_1775 : decode cL_law 1775 = .ok (.daload, 1) := by decide +kernel
theorem dL_law_1776 : decode cL_law 1776 = .ok (.fload 7, 2) := by decide +kernel
theorem dL_law_1778 : decode cL_law 1778 = .ok (.f2d, 1) := by decide +kernel
theorem dL_law_1779 : decode cL_law 1779 = .ok (.dcmp .l, 1) := by decide +kernel
theorem dL_law_1780 : decode cL_law 1780 = .ok (.ifCond .eq 25, 3) := by decide +kernel
theorem dL_law_1783 : decode cL_law 1783 = .ok (.aload 4, 2) := by decide +kernel
theorem dL_law_1785 : decode cL_law 1785 = .ok (.iconst 0, 1) := by decide +kernel
theorem dL_law_1786 : decode cL_law 1786 = .ok (.daload, 1) := by decide +kernel
theorem dL_law_1787 : decode cL_law 1787 = .ok (.aload 4, 2) := by decide +kernel
theorem dL_law_1789 : decode cL_law 1789 = .ok (.iconst 0, 1) := by decide +kernel
theorem dL_law_1790 : decode cL_law 1790 = .ok (.daload, 1) := by decide +kernel
theorem dL_law_1791 : decode cL_law 1791 = .ok (.dcmp .l, 1) := by decide +kernel
theorem dL_law_1792 : decode cL_law 1792 = .ok (.ifCond .eq 11, 3) := by decide +kernel
theorem dL_law_1795 : decode cL_law 1795 = .ok (.fload 7, 2) := by decide +kernel
theorem dL_law_1797 : decode cL_law 1797 = .ok (.fload 7, 2) := by decide +kernel
theorem dL_law_1799 : decode cL_law 1799 = .ok (.fcmp .l, 1) := by decide +kernel
theorem dL_law_1800 : decode cL_law 1800 = .ok (.ifCond .ne 5, 3) := by decide +kernel
theorem dL_law_1803 : decode cL_law 1803 = .ok (.iconst 0, 1) := by decide +kernel
theorem dL_law_1804 : decode cL_law 1804 = .ok (.ireturn, 1) := by decide +kernel
theorem dL_law_1805 : decode cL_law 1805 = .ok (.goto 81, 3) := by decide +kernel
theorem dL_law_1808 : decode cL_law 1808 = .ok (.aload_n 1, 1) := by decide +kernel
theorem dL_law_1809 : decode cL_law 1809 = .ok (.aload 4, 2) := by decide +kernel
theorem dL_law_1811 : decode cL_law 1811 = .ok (.invokestatic 215, 3) := by decide +kernel
theorem dL_law_1814 : decode cL_law 1814 = .ok (.istore 6, 2) := by decide +kernel
theorem dL_law_1816 : decode cL_law 1816 = .ok (.aload_n 2, 1) := by decide +kernel
theorem dL_law_1817 : decode cL_law 1817 = .ok (.invokevirtual 217, 3) := by decide +kernel
theorem dL_law_1820 : decode cL_law 1820 = .ok (.dstore 7, 2) := by decide +kernel
theorem dL_law_1822 : decode cL_law 1822 = .ok (.aload_n 2, 1) := by decide +kernel
theorem dL_law_1823 : decode cL_law 1823 = .ok (.invokevirtual 120, 3) := by decide +kernel
theorem dL_law_1826 : decode cL_law 1826 = .ok (.iload 6, 2) := by decide +kernel
theorem dL_law_1828 : decode cL_law 1828 = .ok (.if_icmp .eq 5, 3) := by decide +kernel
theorem dL_law_1831 : decode cL_law 1831 = .ok (.iconst 0, 1) := by decide +kernel
theorem dL_law_1832 : decode cL_law 1832 = .ok (.ireturn, 1) := by decide +kernel
theorem dL_law_1833 : decode cL_law 1833 = .ok (.iload 6, 2) := by decide +kernel
theorem dL_law_1835 : decode cL_law 1835 = .ok (.ifCond .ne 35, 3) := by decide +kernel
theorem dL_law_1838 : decode cL_law 1838 = .ok (.aload 4, 2) := by decide +kernel
theorem dL_law_1840 : decode cL_law 1840 = .ok (.iconst 0, 1) := by decide +kernel
theorem dL_law_1841 : decode cL_law 1841 = .ok (.daload, 1) := by decide +kernel
theorem dL_law_1842 : decode cL_law 1842 = .ok (.dload 7, 2) := by decide +kernel
theorem dL_law_1844 : decode cL_law 1844 = .ok (.dcmp .l, 1) := by decide +kernel
theorem dL_law_1845 : decode cL_law 1845 = .ok (.ifCond .eq 25, 3) := by decide +kernel
theorem dL_law_1848 : decode cL_law 1848 = .ok (.aload 4, 2) := by decide +kernel
theorem dL_law_1850 : decode cL_law 1850 = .ok (.iconst 0, 1) := by decide +kernel
theorem dL_law_1851 : decode cL_law 1851 = .ok (.daload, 1) := by decide +kernel
theorem dL_law_1852 : decode cL_law 1852 = .ok (.aload 4, 2) := by decide +kernel
theorem dL_law_1854 : decode cL_law 1854 = .ok (.iconst 0, 1) := by decide +kernel
theorem dL_law_1855 : decode cL_law 1855 = .ok (.daload, 1) := by decide +kernel
theorem dL_law_1856 : decode cL_law 1856 = .ok (.dcmp .l, 1) := by decide +kernel
theorem dL_law_1857 : decode cL_law 1857 = .ok (.ifCond .eq 11, 3) := by decide +kernel
theorem dL_law_1860 : decode cL_law 1860 = .ok (.dload 7, 2) := by decide +kernel
theorem dL_law_1862 : decode cL_law 1862 = .ok (.dload 7, 2) := by decide +kernel
theorem dL_law_1864 : decode cL_law 1864 = .ok (.dcmp .l, 1) := by decide +kernel
theorem dL_law_1865 : decode cL_law 1865 = .ok (.ifCond .ne 5, 3) := by decide +kernel
theorem dL_law_1868 : decode cL_law 1868 = .ok (.iconst 0, 1) := by decide +kernel
theorem dL_law_1869 : decode cL_law 1869 = .ok (.ireturn, 1) := by decide +kernel
theorem dL_law_1870 : decode cL_law 1870 = .ok (.goto 16, 3) := by decide +kernel
theorem dL_law_1873 : decode cL_law 1873 = .ok (.aload_n 1, 1) := by decide +kernel
theorem dL_law_1874 : decode cL_law 1874 = .ok (.invokevirtual 218, 3) := by decide +kernel
theorem dL_law_1877 : decode cL_law 1877 = .ok (.aload_n 2, 1) := by decide +kernel
theorem dL_law_1878 : decode cL_law 1878 = .ok (.invokevirtual 222, 3) := by decide +kernel
theorem dL_law_1881 : decode cL_law 1881 = .ok (.if_icmp .eq 5, 3) := by decide +kernel
theorem dL_law_1884 : decode cL_law 1884 = .ok (.iconst 0, 1) := by decide +kernel
theorem dL_law_1885 : decode cL_law 1885 = .ok (.ireturn, 1) := by decide +kernel
theorem dL_law_1886 : decode cL_law 1886 = .ok (.iinc 5 5, 3) := by decide +kernel
theorem dL_law_1889 : decode cL_law 1889 = .ok (.goto (-1861), 3) := by decide +kernel
theorem dL_law_1892 : decode cL_law 1892 = .ok (.iconst 1, 1) := by decide +kernel
theorem dL_law_1893 : decode cL_law 1893 = .ok (.ireturn, 1) := by decide +kernel
