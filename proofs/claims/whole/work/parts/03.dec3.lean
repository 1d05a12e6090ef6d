theorem dX6_clauseCost_59 : decode cX6_clauseCost 59 = .ok (.istore 7, 2) := by decide +kernel
theorem dX6_clauseCost_61 : decode cX6_clauseCost 61 = .ok (.iload_n 3, 1) := by decide +kernel
theorem dX6_clauseCost_62 : decode cX6_clauseCost 62 = .ok (.iload 7, 2) := by decide +kernel
theorem dX6_clauseCost_64 : decode cX6_clauseCost 64 = .ok (.ifCond .eq 12, 3) := by decide +kernel
theorem dX6_clauseCost_67 : decode cX6_clauseCost 67 = .ok (.aload_n 0, 1) := by decide +kernel
theorem dX6_clauseCost_68 : decode cX6_clauseCost 68 = .ok (.iload 4, 2) := by decide +kernel
theorem dX6_clauseCost_70 : decode cX6_clauseCost 70 = .ok (.invokevirtual 69, 3) := by decide +kernel
theorem dX6_clauseCost_73 : decode cX6_clauseCost 73 = .ok (.goto 4, 3) := by decide +kernel
theorem dX6_clauseCost_76 : decode cX6_clauseCost 76 = .ok (.iconst 0, 1) := by decide +kernel
theorem dX6_clauseCost_77 : decode cX6_clauseCost 77 = .ok (.iadd, 1) := by decide +kernel
theorem dX6_clauseCost_78 : decode cX6_clauseCost 78 = .ok (.istore_n 3, 1) := by decide +kernel
theorem dX6_clauseCost_79 : decode cX6_clauseCost 79 = .ok (.iload 7, 2) := by decide +kernel
theorem dX6_clauseCost_81 : decode cX6_clauseCost 81 = .ok (.ifCond .eq 7, 3) := by decide +kernel
theorem dX6_clauseCost_84 : decode cX6_clauseCost 84 = .ok (.iconst 0, 1) := by decide +kernel
theorem dX6_clauseCost_85 : decode cX6_clauseCost 85 = .ok (.goto 5, 3) := by decide +kernel
theorem dX6_clauseCost_88 : decode cX6_clauseCost 88 = .ok (.iload 4, 2) := by decide +kernel
theorem dX6_clauseCost_90 : decode cX6_clauseCost 90 = .ok (.istore 4, 2) := by decide +kernel
theorem dX6_clauseCost_92 : decode cX6_clauseCost 92 = .ok (.iinc 6 1, 3) := by decide +kernel
theorem dX6_clauseCost_95 : decode cX6_clauseCost 95 = .ok (.goto (-79), 3) := by decide +kernel
theorem dX6_clauseCost_98 : decode cX6_clauseCost 98 = .ok (.iload_n 3, 1) := by decide +kernel
theorem dX6_clauseCost_99 : decode cX6_clauseCost 99 = .ok (.ireturn, 1) := by decide +kernel
theorem dX6_rulingOf_0 : decode cX6_rulingOf 0 = .ok (.aload_n 0, 1) := by decide +kernel
theorem dX6_rulingOf_1 : decode cX6_rulingOf 1 = .ok (.aload_n 0, 1) := by decide +kernel
theorem dX6_rulingOf_2 : decode cX6_rulingOf 2 = .ok (.iload_n 1, 1) := by decide +kernel
theorem dX6_rulingOf_3 : decode cX6_rulingOf 3 = .ok (.iload_n 2, 1) := by decide +kernel
theorem dX6_rulingOf_4 : decode cX6_rulingOf 4 = .ok (.invokevirtual 63, 3) := by decide +kernel
theorem dX6_rulingOf_7 : decode cX6_rulingOf 7 = .ok (.aload_n 0, 1) := by decide +kernel
theorem dX6_rulingOf_8 : decode cX6_rulingOf 8 = .ok (.iload_n 1, 1) := by decide +kernel
theorem dX6_rulingOf_9 : decode cX6_rulingOf 9 = .ok (.iload_n 2, 1) := by decide +kernel
theorem dX6_rulingOf_10 : decode cX6_rulingOf 10 = .ok (.iconst 1, 1) := by decide +kernel
theorem dX6_rulingOf_11 : decode cX6_rulingOf 11 = .ok (.iadd, 1) := by decide +kernel
theorem dX6_rulingOf_12 : decode cX6_rulingOf 12 = .ok (.invokevirtual 63, 3) := by decide +kernel
theorem dX6_rulingOf_15 : decode cX6_rulingOf 15 = .ok (.invokevirtual 54, 3) := by decide +kernel
theorem dX6_rulingOf_18 : decode cX6_rulingOf 18 = .ok (.ireturn, 1) := by decide +kernel
theorem dX6_fineOf_0 : decode cX6_fineOf 0 = .ok (.aload_n 0, 1) := by decide +kernel
theorem dX6_fineOf_1 : decode cX6_fineOf 1 = .ok (.iload_n 1, 1) := by decide +kernel
theorem dX6_fineOf_2 : decode cX6_fineOf 2 = .ok (.iload_n 2, 1) := by decide +kernel
theorem dX6_fineOf_3 : decode cX6_fineOf 3 = .ok (.invokevirtual 73, 3) := by decide +kernel
theorem dX6_fineOf_6 : decode cX6_fineOf 6 = .ok (.istore 4, 2) := by decide +kernel
theorem dX6_fineOf_8 : decode cX6_fineOf 8 = .ok (.iload 4, 2) := by decide +kernel
theorem dX6_fineOf_10 : decode cX6_fineOf 10 = .ok (.ifCond .lt 18, 3) := by decide +kernel
theorem dX6_fineOf_13 : decode cX6_fineOf 13 = .ok (.aload_n 0, 1) := by decide +kernel
theorem dX6_fineOf_14 : decode cX6_fineOf 14 = .ok (.iload 4, 2) := by decide +kernel
theorem dX6_fineOf_16 : decode cX6_fineOf 16 = .ok (.iconst 2, 1) := by decide +kernel
theorem dX6_fineOf_17 : decode cX6_fineOf 17 = .ok (.invokevirtual 46, 3) := by decide +kernel
theorem dX6_fineOf_20 : decode cX6_fineOf 20 = .ok (.iload_n 3, 1) := by decide +kernel
theorem dX6_fineOf_21 : decode cX6_fineOf 21 = .ok (.iload_n 2, 1) := by decide +kernel
theorem dX6_fineOf_22 : decode cX6_fineOf 22 = .ok (.ishr, 1) := by decide +kernel
theorem dX6_fineOf_23 : decode cX6_fineOf 23 = .ok (.iconst 1, 1) := by decide +kernel
theorem dX6_fineOf_24 : decode cX6_fineOf 24 = .ok (.iand, 1) := by decide +kernel
theorem dX6_fineOf_25 : decode cX6_fineOf 25 = .ok (.if_icmp .ne 7, 3) := by decide +kernel
theorem dX6_fineOf_28 : decode cX6_fineOf 28 = .ok (.iconst 0, 1) := by decide +kernel
theorem dX6_fineOf_29 : decode cX6_fineOf 29 = .ok (.goto 10, 3) := by decide +kernel
theorem dX6_fineOf_32 : decode cX6_fineOf 32 = .ok (.aload_n 0, 1) := by decide +kernel
theorem dX6_fineOf_33 : decode cX6_fineOf 33 = .ok (.iload 4, 2) := by decide +kernel
theorem dX6_fineOf_35 : decode cX6_fineOf 35 = .ok (.iconst 3, 1) := by decide +kernel
theorem dX6_fineOf_36 : decode cX6_fineOf 36 = .ok (.invokevirtual 46, 3) := by decide +kernel
theorem dX6_fineOf_39 : decode cX6_fineOf 39 = .ok (.ireturn, 1) := by decide +kernel
theorem dX6_finesOf_0 : decode cX6_finesOf 0 = .ok (.iconst 0, 1) := by decide +kernel
theorem dX6_finesOf_1 : decode cX6_finesOf 1 = .ok (.istore_n 3, 1) := by decide +kernel
theorem dX6_finesOf_2 : decode cX6_finesOf 2 = .ok (.iconst 0, 1) := by decide +kernel
theorem dX6_finesOf_3 : decode cX6_finesOf 3 = .ok (.istore 4, 2) := by decide +kernel
theorem dX6_finesOf_5 : decode cX6_finesOf 5 = .ok (.iload 4, 2) := by decide +kernel
theorem dX6_finesOf_7 : decode cX6_finesOf 7 = .ok (.iconst 1, 1) := by decide +kernel
theorem dX6_finesOf_8 : decode cX6_finesOf 8 = .ok (.iadd, 1) := by decide +kernel
theorem dX6_finesOf_9 : decode cX6_finesOf 9 = .ok (.aload_n 0, 1) := by decide +kernel
theorem dX6_finesOf_10 : decode cX6_finesOf 10 = .ok (.iload_n 1, 1) := by decide +kernel
theorem dX6_finesOf_11 : decode cX6_finesOf 11 = .ok (.iconst 0, 1) := by decide +kernel
theorem dX6_finesOf_12 : decode cX6_finesOf 12 = .ok (.invokevirtual 60, 3) := by decide +kernel
theorem dX6_finesOf_15 : decode cX6_finesOf 15 = .ok (.if_icmp .ge 20, 3) := by decide +kernel
theorem dX6_finesOf_18 : decode cX6_finesOf 18 = .ok (.iload_n 3, 1) := by decide +kernel
theorem dX6_finesOf_19 : decode cX6_finesOf 19 = .ok (.aload_n 0, 1) := by decide +kernel
theorem dX6_finesOf_20 : decode cX6_finesOf 20 = .ok (.iload_n 1, 1) := by decide +kernel
theorem dX6_finesOf_21 : decode cX6_finesOf 21 = .ok (.iload 4, 2) := by decide +kernel
theorem dX6_finesOf_23 : decode cX6_finesOf 23 = .ok (.iload_n 2, 1) := by decide +kernel
theorem dX6_finesOf_24 : decode cX6_finesOf 24 = .ok (.invokevirtual 76, 3) := by decide +kernel
theorem dX6_finesOf_27 : decode cX6_finesOf 27 = .ok (.iadd, 1) := by decide +kernel
theorem dX6_finesOf_28 : decode cX6_finesOf 28 = .ok (.istore_n 3, 1) := by decide +kernel
theorem dX6_finesOf_29 : decode cX6_finesOf 29 = .ok (.iinc 4 1, 3) := by decide +kernel
theorem dX6_finesOf_32 : decode cX6_finesOf 32 = .ok (.goto (-27), 3) := by decide +kernel
theorem dX6_finesOf_35 : decode cX6_finesOf 35 = .ok (.iload_n 3, 1) := by decide +kernel
theorem dX6_finesOf_36 : decode cX6_finesOf 36 = .ok (.ireturn, 1) := by decide +kernel
theorem dX6_costBy_0 : decode cX6_costBy 0 = .ok (.aload_n 0, 1) := by decide +kernel
theorem dX6_costBy_1 : decode cX6_costBy 1 = .ok (.iload_n 1, 1) := by decide +kernel
theorem dX6_costBy_2 : decode cX6_costBy 2 = .ok (.iload_n 2, 1) := by decide +kernel
theorem dX6_costBy_3 : decode cX6_costBy 3 = .ok (.invokevirtual 80, 3) := by decide +kernel
theorem dX6_costBy_6 : decode cX6_costBy 6 = .ok (.aload_n 0, 1) := by decide +kernel
theorem dX6_costBy_7 : decode cX6_costBy 7 = .ok (.iload_n 1, 1) := by decide +kernel
theorem dX6_costBy_8 : decode cX6_costBy 8 = .ok (.iload_n 2, 1) := by decide +kernel
theorem dX6_costBy_9 : decode cX6_costBy 9 = .ok (.invokevirtual 83, 3) := by decide +kernel
theorem dX6_costBy_12 : decode cX6_costBy 12 = .ok (.iadd, 1) := by decide +kernel
theorem dX6_costBy_13 : decode cX6_costBy 13 = .ok (.ireturn, 1) := by decide +kernel
theorem dX6_costOf_0 : decode cX6_costOf 0 = .ok (.aload_n 0, 1) := by decide +kernel
theorem dX6_costOf_1 : decode cX6_costOf 1 = .ok (.iload_n 1, 1) := by decide +kernel
theorem dX6_costOf_2 : decode cX6_costOf 2 = .ok (.aload_n 0, 1) := by decide +kernel
theorem dX6_costOf_3 : decode cX6_costOf 3 = .ok (.iload_n 1, 1) := by decide +kernel
theorem dX6_costOf_4 : decode cX6_costOf 4 = .ok (.iconst 1, 1) := by decide +kernel
theorem dX6_costOf_5 : decode cX6_costOf 5 = .ok (.invokevirtual 60, 3) := by decide +kernel
theorem dX6_costOf_8 : decode cX6_costOf 8 = .ok (.invokevirtual 86, 3) := by decide +kernel
theorem dX6_costOf_11 : decode cX6_costOf 11 = .ok (.ireturn, 1) := by decide +kernel
theorem dX6_allCost_0 : decode cX6_allCost 0 = .ok (.iconst 0, 1) := by decide +kernel
theorem dX6_allCost_1 : decode cX6_allCost 1 = .ok (.istore_n 1, 1) := by decide +kernel
theorem dX6_allCost_2 : decode cX6_allCost 2 = .ok (.iconst 0, 1) := by decide +kernel
theorem dX6_allCost_3 : decode cX6_allCost 3 = .ok (.istore_n 2, 1) := by decide +kernel
theorem dX6_allCost_4 : decode cX6_allCost 4 = .ok (.iload_n 2, 1) := by decide +kernel
theorem dX6_allCost_5 : decode cX6_allCost 5 = .ok (.aload_n 0, 1) := by decide +kernel
theorem dX6_allCost_6 : decode cX6_allCost 6 = .ok (.getfield 7, 3) := by decide +kernel
theorem dX6_allCost_9 : decode cX6_allCost 9 = .ok (.iconst 3, 1) := by decide +kernel
theorem dX6_allCost_10 : decode cX6_allCost 10 = .ok (.iaload, 1) := by decide +kernel
theorem dX6_allCost_11 : decode cX6_allCost 11 = .ok (.if_icmp .ge 17, 3) := by decide +kernel
theorem dX6_allCost_14 : decode cX6_allCost 14 = .ok (.iload_n 1, 1) := by decide +kernel
theorem dX6_allCost_15 : decode cX6_allCost 15 = .ok (.aload_n 0, 1) := by decide +kernel
theorem dX6_allCost_16 : decode cX6_allCost 16 = .ok (.iload_n 2, 1) := by decide +kernel
theorem dX6_allCost_17 : decode cX6_allCost 17 = .ok (.invokevirtual 89, 3) := by decide +kernel
theorem dX6_allCost_20 : decode cX6_allCost 20 = .ok (.iadd, 1) := by decide +kernel
theorem dX6_allCost_21 : decode cX6_allCost 21 = .ok (.istore_n 1, 1) := by decide +kernel
theorem dX6_allCost_22 : decode cX6_allCost 22 = .ok (.iinc 2 1, 3) := by decide +kernel
theorem dX6_allCost_25 : decode cX6_allCost 25 = .ok (.goto (-21), 3) := by decide +kernel
theorem dX6_allCost_28 : decode cX6_allCost 28 = .ok (.iload_n 1, 1) := by decide +kernel
theorem dX6_allCost_29 : decode cX6_allCost 29 = .ok (.ireturn, 1) := by decide +kernel
theorem dX6_isStayed_0 : decode cX6_isStayed 0 = .ok (.aload_n 0, 1) := by decide +kernel
theorem dX6_isStayed_1 : decode cX6_isStayed 1 = .ok (.getfield 7, 3) := by decide +kernel
theorem dX6_isStayed_4 : decode cX6_isStayed 4 = .ok (.iconst 0, 1) := by decide +kernel
theorem dX6_isStayed_5 : decode cX6_isStayed 5 = .ok (.iaload, 1) := by decide +kernel
theorem dX6_isStayed_6 : decode cX6_isStayed 6 = .ok (.aload_n 0, 1) := by decide +kernel
theorem dX6_isStayed_7 : decode cX6_isStayed 7 = .ok (.iload_n 1, 1) := by decide +kernel
theorem dX6_isStayed_8 : decode cX6_isStayed 8 = .ok (.iconst 2, 1) := by decide +kernel
theorem dX6_isStayed_9 : decode cX6_isStayed 9 = .ok (.invokevirtual 60, 3) := by decide +kernel
theorem dX6_isStayed_12 : decode cX6_isStayed 12 = .ok (.if_icmp .ge 7, 3) := by decide +kernel
theorem dX6_isStayed_15 : decode cX6_isStayed 15 = .ok (.iconst 1, 1) := by decide +kernel
theorem dX6_isStayed_16 : decode cX6_isStayed 16 = .ok (.goto 4, 3) := by decide +kernel
theorem dX6_isStayed_19 : decode cX6_isStayed 19 = .ok (.iconst 0, 1) := by decide +kernel
theorem dX6_isStayed_20 : decode cX6_isStayed 20 = .ok (.ireturn, 1) := by decide +kernel
theorem dX6_isSame_0 : decode cX6_isSame 0 = .ok (.aload_n 0, 1) := by decide +kernel
theorem dX6_isSame_1 : decode cX6_isSame 1 = .ok (.iload_n 1, 1) := by decide +kernel
theorem dX6_isSame_2 : decode cX6_isSame 2 = .ok (.iconst 0, 1) := by decide +kernel
theorem dX6_isSame_3 : decode cX6_isSame 3 = .ok (.invokevirtual 60, 3) := by decide +kernel
theorem dX6_isSame_6 : decode cX6_isSame 6 = .ok (.aload_n 0, 1) := by decide +kernel
theorem dX6_isSame_7 : decode cX6_isSame 7 = .ok (.iload_n 2, 1) := by decide +kernel
theorem dX6_isSame_8 : decode cX6_isSame 8 = .ok (.iconst 0, 1) := by decide +kernel
theorem dX6_isSame_9 : decode cX6_isSame 9 = .ok (.invokevirtual 60, 3) := by decide +kernel
theorem dX6_isSame_12 : decode cX6_isSame 12 = .ok (.if_icmp .ne 7, 3) := by decide +kernel
theorem dX6_isSame_15 : decode cX6_isSame 15 = .ok (.iconst 1, 1) := by decide +kernel
theorem dX6_isSame_16 : decode cX6_isSame 16 = .ok (.goto 4, 3) := by decide +kernel
theorem dX6_isSame_19 : decode cX6_isSame 19 = .ok (.iconst 0, 1) := by decide +kernel
theorem dX6_isSame_20 : decode cX6_isSame 20 = .ok (.istore_n 3, 1) := by decide +kernel
theorem dX6_isSame_21 : decode cX6_isSame 21 = .ok (.iconst 0, 1) := by decide +kernel
theorem dX6_isSame_22 : decode cX6_isSame 22 = .ok (.istore 4, 2) := by decide +kernel
theorem dX6_isSame_24 : decode cX6_isSame 24 = .ok (.iload 4, 2) := by decide +kernel
theorem dX6_isSame_26 : decode cX6_isSame 26 = .ok (.bipush 12, 2) := by decide +kernel
theorem dX6_isSame_28 : decode cX6_isSame 28 = .ok (.if_icmp .ge 36, 3) := by decide +kernel
theorem dX6_isSame_31 : decode cX6_isSame 31 = .ok (.iload_n 3, 1) := by decide +kernel
theorem dX6_isSame_32 : decode cX6_isSame 32 = .ok (.ifCond .eq 24, 3) := by decide +kernel
theorem dX6_isSame_35 : decode cX6_isSame 35 = .ok (.aload_n 0, 1) := by decide +kernel
theorem dX6_isSame_36 : decode cX6_isSame 36 = .ok (.iload_n 1, 1) := by decide +kernel
theorem dX6_isSame_37 : decode cX6_isSame 37 = .ok (.iload 4, 2) := by decide +kernel
theorem dX6_isSame_39 : decode cX6_isSame 39 = .ok (.invokevirtual 63, 3) := by decide +kernel
theorem dX6_isSame_42 : decode cX6_isSame 42 = .ok (.aload_n 0, 1) := by decide +kernel
theorem dX6_isSame_43 : decode cX6_isSame 43 = .ok (.iload_n 2, 1) := by decide +kernel
theorem dX6_isSame_44 : decode cX6_isSame 44 = .ok (.iload 4, 2) := by decide +kernel
theorem dX6_isSame_46 : decode cX6_isSame 46 = .ok (.invokevirtual 63, 3) := by decide +kernel
theorem dX6_isSame_49 : decode cX6_isSame 49 = .ok (.if_icmp .ne 7, 3) := by decide +kernel
theorem dX6_isSame_52 : decode cX6_isSame 52 = .ok (.iconst 1, 1) := by decide +kernel
theorem dX6_isSame_53 : decode cX6_isSame 53 = .ok (.goto 4, 3) := by decide +kernel
theorem dX6_isSame_56 : decode cX6_isSame 56 = .ok (.iconst 0, 1) := by decide +kernel
theorem dX6_isSame_57 : decode cX6_isSame 57 = .ok (.istore_n 3, 1) := by decide +kernel
theorem dX6_isSame_58 : decode cX6_isSame 58 = .ok (.iinc 4 1, 3) := by decide +kernel
theorem dX6_isSame_61 : decode cX6_isSame 61 = .ok (.goto (-37), 3) := by decide +kernel
theorem dX6_isSame_64 : decode cX6_isSame 64 = .ok (.iload_n 3, 1) := by decide +kernel
theorem dX6_isSame_65 : decode cX6_isSame 65 = .ok (.ireturn, 1) := by decide +kernel
theorem dX6_isTaken_0 : decode cX6_isTaken 0 = .ok (.iconst 0, 1) := by decide +kernel
theorem dX6_isTaken_1 : decode cX6_isTaken 1 = .ok (.istore_n 3, 1) := by decide +kernel
theorem dX6_isTaken_2 : decode cX6_isTaken 2 = .ok (.iconst 0, 1) := by decide +kernel
theorem dX6_isTaken_3 : decode cX6_isTaken 3 = .ok (.istore 4, 2) := by decide +kernel
theorem dX6_isTaken_5 : decode cX6_isTaken 5 = .ok (.iload 4, 2) := by decide +kernel
theorem dX6_isTaken_7 : decode cX6_isTaken 7 = .ok (.aload_n 0, 1) := by decide +kernel
theorem dX6_isTaken_8 : decode cX6_isTaken 8 = .ok (.getfield 7, 3) := by decide +kernel
theorem dX6_isTaken_11 : decode cX6_isTaken 11 = .ok (.iconst 3, 1) := by decide +kernel
theorem dX6_isTaken_12 : decode cX6_isTaken 12 = .ok (.iaload, 1) := by decide +kernel
theorem dX6_isTaken_13 : decode cX6_isTaken 13 = .ok (.if_icmp .ge 46, 3) := by decide +kernel
theorem dX6_isTaken_16 : decode cX6_isTaken 16 = .ok (.iload_n 3, 1) := by decide +kernel
theorem dX6_isTaken_17 : decode cX6_isTaken 17 = .ok (.ifCond .ne 30, 3) := by decide +kernel
theorem dX6_isTaken_20 : decode cX6_isTaken 20 = .ok (.iload 4, 2) := by decide +kernel
theorem dX6_isTaken_22 : decode cX6_isTaken 22 = .ok (.iload_n 1, 1) := by decide +kernel
theorem dX6_isTaken_23 : decode cX6_isTaken 23 = .ok (.if_icmp .eq 28, 3) := by decide +kernel
theorem dX6_isTaken_26 : decode cX6_isTaken 26 = .ok (.aload_n 0, 1) := by decide +kernel
theorem dX6_isTaken_27 : decode cX6_isTaken 27 = .ok (.iload 4, 2) := by decide +kernel
theorem dX6_isTaken_29 : decode cX6_isTaken 29 = .ok (.iload_n 1, 1) := by decide +kernel
theorem dX6_isTaken_30 : decode cX6_isTaken 30 = .ok (.invokevirtual 92, 3) := by decide +kernel
theorem dX6_isTaken_33 : decode cX6_isTaken 33 = .ok (.ifCond .eq 18, 3) := by decide +kernel
theorem dX6_isTaken_36 : decode cX6_isTaken 36 = .ok (.aload_n 0, 1) := by decide +kernel
theorem dX6_isTaken_37 : decode cX6_isTaken 37 = .ok (.iload 4, 2) := by decide +kernel
theorem dX6_isTaken_39 : decode cX6_isTaken 39 = .ok (.iconst 1, 1) := by decide +kernel
theorem dX6_isTaken_40 : decode cX6_isTaken 40 = .ok (.invokevirtual 60, 3) := by decide +kernel
theorem dX6_isTaken_43 : decode cX6_isTaken 43 = .ok (.iload_n 2, 1) := by decide +kernel
theorem dX6_isTaken_44 : decode cX6_isTaken 44 = .ok (.if_icmp .ne 7, 3) := by decide +kernel
theorem dX6_isTaken_47 : decode cX6_isTaken 47 = .ok (.iconst 1, 1) := by decide +kernel
theorem dX6_isTaken_48 : decode cX6_isTaken 48 = .ok (.goto 4, 3) := by decide +kernel
theorem dX6_isTaken_51 : decode cX6_isTaken 51 = .ok (.iconst 0, 1) := by decide +kernel
theorem dX6_isTaken_52 : decode cX6_isTaken 52 = .ok (.istore_n 3, 1) := by decide +kernel
theorem dX6_isTaken_53 : decode cX6_isTaken 53 = .ok (.iinc 4 1, 3) := by decide +kernel
theorem dX6_isTaken_56 : decode cX6_isTaken 56 = .ok (.goto (-51), 3) := by decide +kernel
theorem dX6_isTaken_59 : decode cX6_isTaken 59 = .ok (.iload_n 3, 1) := by decide +kernel
theorem dX6_isTaken_60 : decode cX6_isTaken 60 = .ok (.ireturn, 1) := by decide +kernel
theorem dX6_reasonToRefuse_0 : decode cX6_reasonToRefuse 0 = .ok (.aload_n 0, 1) := by decide +kernel
theorem dX6_reasonToRefuse_1 : decode cX6_reasonToRefuse 1 = .ok (.iload_n 1, 1) := by decide +kernel
theorem dX6_reasonToRefuse_2 : decode cX6_reasonToRefuse 2 = .ok (.invokevirtual 96, 3) := by decide +kernel
theorem dX6_reasonToRefuse_5 : decode cX6_reasonToRefuse 5 = .ok (.ifCond .eq 5, 3) := by decide +kernel
theorem dX6_reasonToRefuse_8 : decode cX6_reasonToRefuse 8 = .ok (.iconst 1, 1) := by decide +kernel
theorem dX6_reasonToRefuse_9 : decode cX6_reasonToRefuse 9 = .ok (.ireturn, 1) := by decide +kernel
theorem dX6_reasonToRefuse_10 : decode cX6_reasonToRefuse 10 = .ok (.aload_n 0, 1) := by decide +kernel
theorem dX6_reasonToRefuse_11 : decode cX6_reasonToRefuse 11 = .ok (.iload_n 1, 1) := by decide +kernel
theorem dX6_reasonToRefuse_12 : decode cX6_reasonToRefuse 12 = .ok (.iconst 1, 1) := by decide +kernel
theorem dX6_reasonToRefuse_13 : decode cX6_reasonToRefuse 13 = .ok (.invokevirtual 60, 3) := by decide +kernel
theorem dX6_reasonToRefuse_16 : decode cX6_reasonToRefuse 16 = .ok (.iconst 1, 1) := by decide +kernel
theorem dX6_reasonToRefuse_17 : decode cX6_reasonToRefuse 17 = .ok (.iload_n 2, 1) := by decide +kernel
theorem dX6_reasonToRefuse_18 : decode cX6_reasonToRefuse 18 = .ok (.ishl, 1) := by decide +kernel
theorem dX6_reasonToRefuse_19 : decode cX6_reasonToRefuse 19 = .ok (.ixor, 1) := by decide +kernel
theorem dX6_reasonToRefuse_20 : decode cX6_reasonToRefuse 20 = .ok (.istore_n 3, 1) := by decide +kernel
theorem dX6_reasonToRefuse_21 : decode cX6_reasonToRefuse 21 = .ok (.aload_n 0, 1) := by decide +kernel
theorem dX6_reasonToRefuse_22 : decode cX6_reasonToRefuse 22 = .ok (.iload_n 1, 1) := by decide +kernel
theorem dX6_reasonToRefuse_23 : decode cX6_reasonToRefuse 23 = .ok (.iload_n 3, 1) := by decide +kernel
theorem dX6_reasonToRefuse_24 : decode cX6_reasonToRefuse 24 = .ok (.invokevirtual 86, 3) := by decide +kernel
theorem dX6_reasonToRefuse_27 : decode cX6_reasonToRefuse 27 = .ok (.aload_n 0, 1) := by decide +kernel
theorem dX6_reasonToRefuse_28 : decode cX6_reasonToRefuse 28 = .ok (.iload_n 1, 1) := by decide +kernel
theorem dX6_reasonToRefuse_29 : decode cX6_reasonToRefuse 29 = .ok (.invokevirtual 89, 3) := by decide +kernel
theorem dX6_reasonToRefuse_32 : decode cX6_reasonToRefuse 32 = .ok (.if_icmp .lt 7, 3) := by decide +kernel
theorem dX6_reasonToRefuse_35 : decode cX6_reasonToRefuse 35 = .ok (.iconst 2, 1) := by decide +kernel
theorem dX6_reasonToRefuse_36 : decode cX6_reasonToRefuse 36 = .ok (.goto 17, 3) := by decide +kernel
theorem dX6_reasonToRefuse_39 : decode cX6_reasonToRefuse 39 = .ok (.aload_n 0, 1) := by decide +kernel
theorem dX6_reasonToRefuse_40 : decode cX6_reasonToRefuse 40 = .ok (.iload_n 1, 1) := by decide +kernel
theorem dX6_reasonToRefuse_41 : decode cX6_reasonToRefuse 41 = .ok (.iload_n 3, 1) := by decide +kernel
theorem dX6_reasonToRefuse_42 : decode cX6_reasonToRefuse 42 = .ok (.invokevirtual 99, 3) := by decide +kernel
theorem dX6_reasonToRefuse_45 : decode cX6_reasonToRefuse 45 = .ok (.ifCond .eq 7, 3) := by decide +kernel
theorem dX6_reasonToRefuse_48 : decode cX6_reasonToRefuse 48 = .ok (.iconst 3, 1) := by decide +kernel
theorem dX6_reasonToRefuse_49 : decode cX6_reasonToRefuse 49 = .ok (.goto 4, 3) := by decide +kernel
theorem dX6_reasonToRefuse_52 : decode cX6_reasonToRefuse 52 = .ok (.iconst 0, 1) := by decide +kernel
theorem dX6_reasonToRefuse_53 : decode cX6_reasonToRefuse 53 = .ok (.ireturn, 1) := by decide +kernel
theorem dX6_goSue_0 : decode cX6_goSue 0 = .ok (.aload_n 0, 1) := by decide +kernel
theorem dX6_goSue_1 : decode cX6_goSue 1 = .ok (.iload_n 1, 1) := by decide +kernel
theorem dX6_goSue_2 : decode cX6_goSue 2 = .ok (.iload_n 2, 1) := by decide +kernel
theorem dX6_goSue_3 : decode cX6_goSue 3 = .ok (.invokevirtual 102, 3) := by decide +kernel
theorem dX6_goSue_6 : decode cX6_goSue 6 = .ok (.istore_n 3, 1) := by decide +kernel
theorem dX6_goSue_7 : decode cX6_goSue 7 = .ok (.iload_n 3, 1) := by decide +kernel
theorem dX6_goSue_8 : decode cX6_goSue 8 = .ok (.ifCond .le 16, 3) := by decide +kernel
theorem dX6_goSue_11 : decode cX6_goSue 11 = .ok (.aload_n 0, 1) := by decide +kernel
theorem dX6_goSue_12 : decode cX6_goSue 12 = .ok (.getfield 7, 3) := by decide +kernel
theorem dX6_goSue_15 : decode cX6_goSue 15 = .ok (.bipush 6, 2) := by decide +kernel
theorem dX6_goSue_17 : decode cX6_goSue 17 = .ok (.dup2, 1) := by decide +kernel
theorem dX6_goSue_18 : decode cX6_goSue 18 = .ok (.iaload, 1) := by decide +kernel
theorem dX6_goSue_19 : decode cX6_goSue 19 = .ok (.iconst 1, 1) := by decide +kernel
theorem dX6_goSue_20 : decode cX6_goSue 20 = .ok (.iadd, 1) := by decide +kernel
theorem dX6_goSue_21 : decode cX6_goSue 21 = .ok (.iastore, 1) := by decide +kernel
theorem dX6_goSue_22 : decode cX6_goSue 22 = .ok (.iload_n 3, 1) := by decide +kernel
theorem dX6_goSue_23 : decode cX6_goSue 23 = .ok (.ireturn, 1) := by decide +kernel
theorem dX6_goSue_24 : decode cX6_goSue 24 = .ok (.aload_n 0, 1) := by decide +kernel
theorem dX6_goSue_25 : decode cX6_goSue 25 = .ok (.iload_n 1, 1) := by decide +kernel
theorem dX6_goSue_26 : decode cX6_goSue 26 = .ok (.invokevirtual 89, 3) := by decide +kernel
theorem dX6_goSue_29 : decode cX6_goSue 29 = .ok (.istore 4, 2) := by decide +kernel
theorem dX6_goSue_31 : decode cX6_goSue 31 = .ok (.aload_n 0, 1) := by decide +kernel
theorem dX6_goSue_32 : decode cX6_goSue 32 = .ok (.iload_n 1, 1) := by decide +kernel
theorem dX6_goSue_33 : decode cX6_goSue 33 = .ok (.iconst 1, 1) := by decide +kernel
theorem dX6_goSue_34 : decode cX6_goSue 34 = .ok (.aload_n 0, 1) := by decide +kernel
theorem dX6_goSue_35 : decode cX6_goSue 35 = .ok (.iload_n 1, 1) := by decide +kernel
theorem dX6_goSue_36 : decode cX6_goSue 36 = .ok (.iconst 1, 1) := by decide +kernel
theorem dX6_goSue_37 : decode cX6_goSue 37 = .ok (.invokevirtual 60, 3) := by decide +kernel
theorem dX6_goSue_40 : decode cX6_goSue 40 = .ok (.iconst 1, 1) := by decide +kernel
theorem dX6_goSue_41 : decode cX6_goSue 41 = .ok (.iload_n 2, 1) := by decide +kernel
theorem dX6_goSue_42 : decode cX6_goSue 42 = .ok (.ishl, 1) := by decide +kernel
theorem dX6_goSue_43 : decode cX6_goSue 43 = .ok (.ixor, 1) := by decide +kernel
theorem dX6_goSue_44 : decode cX6_goSue 44 = .ok (.invokevirtual 105, 3) := by decide +kernel
theorem dX6_goSue_47 : decode cX6_goSue 47 = .ok (.aload_n 0, 1) := by decide +kernel
theorem dX6_goSue_48 : decode cX6_goSue 48 = .ok (.iload_n 1, 1) := by decide +kernel
theorem dX6_goSue_49 : decode cX6_goSue 49 = .ok (.iconst 3, 1) := by decide +kernel
theorem dX6_goSue_50 : decode cX6_goSue 50 = .ok (.aload_n 0, 1) := by decide +kernel
theorem dX6_goSue_51 : decode cX6_goSue 51 = .ok (.iload_n 1, 1) := by decide +kernel
theorem dX6_goSue_52 : decode cX6_goSue 52 = .ok (.iconst 3, 1) := by decide +kernel
theorem dX6_goSue_53 : decode cX6_goSue 53 = .ok (.invokevirtual 60, 3) := by decide +kernel
theorem dX6_goSue_56 : decode cX6_goSue 56 = .ok (.iconst 1, 1) := by decide +kernel
theorem dX6_goSue_57 : decode cX6_goSue 57 = .ok (.iadd, 1) := by decide +kernel
theorem dX6_goSue_58 : decode cX6_goSue 58 = .ok (.invokevirtual 105, 3) := by decide +kernel
theorem dX6_goSue_61 : decode cX6_goSue 61 = .ok (.aload_n 0, 1) := by decide +kernel
theorem dX6_goSue_62 : decode cX6_goSue 62 = .ok (.getfield 7, 3) := by decide +kernel
theorem dX6_goSue_65 : decode cX6_goSue 65 = .ok (.iconst 5, 1) := by decide +kernel
theorem dX6_goSue_66 : decode cX6_goSue 66 = .ok (.dup2, 1) := by decide +kernel
theorem dX6_goSue_67 : decode cX6_goSue 67 = .ok (.iaload, 1) := by decide +kernel
theorem dX6_goSue_68 : decode cX6_goSue 68 = .ok (.iconst 1, 1) := by decide +kernel
theorem dX6_goSue_69 : decode cX6_goSue 69 = .ok (.iadd, 1) := by decide +kernel
theorem dX6_goSue_70 : decode cX6_goSue 70 = .ok (.iastore, 1) := by decide +kernel
theorem dX6_goSue_71 : decode cX6_goSue 71 = .ok (.bipush 10, 2) := by decide +kernel
theorem dX6_goSue_73 : decode cX6_goSue 73 = .ok (.iload 4, 2) := by decide +kernel
theorem dX6_goSue_75 : decode cX6_goSue 75 = .ok (.iadd, 1) := by decide +kernel
theorem dX6_goSue_76 : decode cX6_goSue 76 = .ok (.aload_n 0, 1) := by decide +kernel
theorem dX6_goSue_77 : decode cX6_goSue 77 = .ok (.iload_n 1, 1) := by decide +kernel
theorem dX6_goSue_78 : decode cX6_goSue 78 = .ok (.invokevirtual 89, 3) := by decide +kernel
theorem dX6_goSue_81 : decode cX6_goSue 81 = .ok (.isub, 1) := by decide +kernel
theorem dX6_goSue_82 : decode cX6_goSue 82 = .ok (.ireturn, 1) := by decide +kernel
theorem dX6_weight_0 : decode cX6_weight 0 = .ok (.iload_n 1, 1) := by decide +kernel
theorem dX6_weight_1 : decode cX6_weight 1 = .ok (.invokestatic 109, 3) := by decide +kernel
theorem dX6_weight_4 : decode cX6_weight 4 = .ok (.ifCond .eq 13, 3) := by decide +kernel
theorem dX6_weight_7 : decode cX6_weight 7 = .ok (.iload_n 2, 1) := by decide +kernel
theorem dX6_weight_8 : decode cX6_weight 8 = .ok (.iconst 1, 1) := by decide +kernel
theorem dX6_weight_9 : decode cX6_weight 9 = .ok (.bipush 9, 2) := by decide +kernel
theorem dX6_weight_11 : decode cX6_weight 11 = .ok (.invokestatic 42, 3) := by decide +kernel
theorem dX6_weight_14 : decode cX6_weight 14 = .ok (.ifCond .ne 5, 3) := by decide +kernel
theorem dX6_weight_17 : decode cX6_weight 17 = .ok (.iconst (-1), 1) := by decide +kernel
theorem dX6_weight_18 : decode cX6_weight 18 = .ok (.ireturn, 1) := by decide +kernel
theorem dX6_weight_19 : decode cX6_weight 19 = .ok (.aload_n 0, 1) := by decide +kernel
theorem dX6_weight_20 : decode cX6_weight 20 = .ok (.invokevirtual 112, 3) := by decide +kernel
theorem dX6_weight_23 : decode cX6_weight 23 = .ok (.aload_n 0, 1) := by decide +kernel
theorem dX6_weight_24 : decode cX6_weight 24 = .ok (.getfield 7, 3) := by decide +kernel
theorem dX6_weight_27 : decode cX6_weight 27 = .ok (.bipush 7, 2) := by decide +kernel
theorem dX6_weight_29 : decode cX6_weight 29 = .ok (.iload_n 1, 1) := by decide +kernel
theorem dX6_weight_30 : decode cX6_weight 30 = .ok (.iadd, 1) := by decide +kernel
theorem dX6_weight_31 : decode cX6_weight 31 = .ok (.iaload, 1) := by decide +kernel
theorem dX6_weight_32 : decode cX6_weight 32 = .ok (.istore_n 3, 1) := by decide +kernel
theorem dX6_weight_33 : decode cX6_weight 33 = .ok (.aload_n 0, 1) := by decide +kernel
theorem dX6_weight_34 : decode cX6_weight 34 = .ok (.getfield 7, 3) := by decide +kernel
theorem dX6_weight_37 : decode cX6_weight 37 = .ok (.bipush 7, 2) := by decide +kernel
theorem dX6_weight_39 : decode cX6_weight 39 = .ok (.iload_n 1, 1) := by decide +kernel
theorem dX6_weight_40 : decode cX6_weight 40 = .ok (.iadd, 1) := by decide +kernel
theorem dX6_weight_41 : decode cX6_weight 41 = .ok (.iload_n 2, 1) := by decide +kernel
theorem dX6_weight_42 : decode cX6_weight 42 = .ok (.iastore, 1) := by decide +kernel
theorem dX6_weight_43 : decode cX6_weight 43 = .ok (.iload_n 3, 1) := by decide +kernel
theorem dX6_weight_44 : decode cX6_weight 44 = .ok (.ireturn, 1) := by decide +kernel
theorem dX6_set_0 : decode cX6_set 0 = .ok (.iload_n 1, 1) := by decide +kernel
theorem dX6_set_1 : decode cX6_set 1 = .ok (.iconst 0, 1) := by decide +kernel
theorem dX6_set_2 : decode cX6_set 2 = .ok (.iconst 1, 1) := by decide +kernel
theorem dX6_set_3 : decode cX6_set 3 = .ok (.invokestatic 42, 3) := by decide +kernel
theorem dX6_set_6 : decode cX6_set 6 = .ok (.ifCond .eq 31, 3) := by decide +kernel
theorem dX6_set_9 : decode cX6_set 9 = .ok (.iload_n 2, 1) := by decide +kernel
theorem dX6_set_10 : decode cX6_set 10 = .ok (.iload_n 1, 1) := by decide +kernel
theorem dX6_set_11 : decode cX6_set 11 = .ok (.ifCond .ne 7, 3) := by decide +kernel
theorem dX6_set_14 : decode cX6_set 14 = .ok (.iconst 1, 1) := by decide +kernel
theorem dX6_set_15 : decode cX6_set 15 = .ok (.goto 5, 3) := by decide +kernel
theorem dX6_set_18 : decode cX6_set 18 = .ok (.bipush 9, 2) := by decide +kernel
theorem dX6_set_20 : decode cX6_set 20 = .ok (.iload_n 1, 1) := by decide +kernel
theorem dX6_set_21 : decode cX6_set 21 = .ok (.ifCond .ne 8, 3) := by decide +kernel
theorem dX6_set_24 : decode cX6_set 24 = .ok (.bipush 30, 2) := by decide +kernel
theorem dX6_set_26 : decode cX6_set 26 = .ok (.goto 5, 3) := by decide +kernel
theorem dX6_set_29 : decode cX6_set 29 = .ok (.bipush 60, 2) := by decide +kernel
theorem dX6_set_31 : decode cX6_set 31 = .ok (.invokestatic 42, 3) := by decide +kernel
theorem dX6_set_34 : decode cX6_set 34 = .ok (.ifCond .ne 5, 3) := by decide +kernel
theorem dX6_set_37 : decode cX6_set 37 = .ok (.iconst (-1), 1) := by decide +kernel
theorem dX6_set_38 : decode cX6_set 38 = .ok (.ireturn, 1) := by decide +kernel
theorem dX6_set_39 : decode cX6_set 39 = .ok (.aload_n 0, 1) := by decide +kernel
theorem dX6_set_40 : decode cX6_set 40 = .ok (.invokevirtual 112, 3) := by decide +kernel
theorem dX6_set_43 : decode cX6_set 43 = .ok (.aload_n 0, 1) := by decide +kernel
theorem dX6_set_44 : decode cX6_set 44 = .ok (.getfield 7, 3) := by decide +kernel
theorem dX6_set_47 : decode cX6_set 47 = .ok (.iconst 1, 1) := by decide +kernel
theorem dX6_set_48 : decode cX6_set 48 = .ok (.iload_n 1, 1) := by decide +kernel
theorem dX6_set_49 : decode cX6_set 49 = .ok (.iadd, 1) := by decide +kernel
theorem dX6_set_50 : decode cX6_set 50 = .ok (.iaload, 1) := by decide +kernel
theorem dX6_set_51 : decode cX6_set 51 = .ok (.istore_n 3, 1) := by decide +kernel
theorem dX6_set_52 : decode cX6_set 52 = .ok (.aload_n 0, 1) := by decide +kernel
theorem dX6_set_53 : decode cX6_set 53 = .ok (.getfield 7, 3) := by decide +kernel
theorem dX6_set_56 : decode cX6_set 56 = .ok (.iconst 1, 1) := by decide +kernel
theorem dX6_set_57 : decode cX6_set 57 = .ok (.iload_n 1, 1) := by decide +kernel
theorem dX6_set_58 : decode cX6_set 58 = .ok (.iadd, 1) := by decide +kernel
theorem dX6_set_59 : decode cX6_set 59 = .ok (.iload_n 2, 1) := by decide +kernel
theorem dX6_set_60 : decode cX6_set 60 = .ok (.iastore, 1) := by decide +kernel
theorem dX6_set_61 : decode cX6_set 61 = .ok (.iload_n 3, 1) := by decide +kernel
theorem dX6_set_62 : decode cX6_set 62 = .ok (.ireturn, 1) := by decide +kernel
theorem dX6_addsRuling_0 : decode cX6_addsRuling 0 = .ok (.bipush 13, 2) := by decide +kernel
theorem dX6_addsRuling_2 : decode cX6_addsRuling 2 = .ok (.bipush 6, 2) := by decide +kernel
theorem dX6_addsRuling_4 : decode cX6_addsRuling 4 = .ok (.aload_n 0, 1) := by decide +kernel
theorem dX6_addsRuling_5 : decode cX6_addsRuling 5 = .ok (.getfield 7, 3) := by decide +kernel
theorem dX6_addsRuling_8 : decode cX6_addsRuling 8 = .ok (.iconst 4, 1) := by decide +kernel
theorem dX6_addsRuling_9 : decode cX6_addsRuling 9 = .ok (.iaload, 1) := by decide +kernel
theorem dX6_addsRuling_10 : decode cX6_addsRuling 10 = .ok (.imul, 1) := by decide +kernel
theorem dX6_addsRuling_11 : decode cX6_addsRuling 11 = .ok (.iadd, 1) := by decide +kernel
theorem dX6_addsRuling_12 : decode cX6_addsRuling 12 = .ok (.istore 6, 2) := by decide +kernel
theorem dX6_addsRuling_14 : decode cX6_addsRuling 14 = .ok (.aload_n 0, 1) := by decide +kernel
theorem dX6_addsRuling_15 : decode cX6_addsRuling 15 = .ok (.getfield 7, 3) := by decide +kernel
theorem dX6_addsRuling_18 : decode cX6_addsRuling 18 = .ok (.iload 6, 2) := by decide +kernel
theorem dX6_addsRuling_20 : decode cX6_addsRuling 20 = .ok (.iconst 0, 1) := by decide +kernel
theorem dX6_addsRuling_21 : decode cX6_addsRuling 21 = .ok (.iadd, 1) := by decide +kernel
theorem dX6_addsRuling_22 : decode cX6_addsRuling 22 = .ok (.iload_n 1, 1) := by decide +kernel
theorem dX6_addsRuling_23 : decode cX6_addsRuling 23 = .ok (.iastore, 1) := by decide +kernel
theorem dX6_addsRuling_24 : decode cX6_addsRuling 24 = .ok (.aload_n 0, 1) := by decide +kernel
theorem dX6_addsRuling_25 : decode cX6_addsRuling 25 = .ok (.getfield 7, 3) := by decide +kernel
theorem dX6_addsRuling_28 : decode cX6_addsRuling 28 = .ok (.iload 6, 2) := by decide +kernel
theorem dX6_addsRuling_30 : decode cX6_addsRuling 30 = .ok (.iconst 1, 1) := by decide +kernel
theorem dX6_addsRuling_31 : decode cX6_addsRuling 31 = .ok (.iadd, 1) := by decide +kernel
theorem dX6_addsRuling_32 : decode cX6_addsRuling 32 = .ok (.iload_n 2, 1) := by decide +kernel
theorem dX6_addsRuling_33 : decode cX6_addsRuling 33 = .ok (.iastore, 1) := by decide +kernel
theorem dX6_addsRuling_34 : decode cX6_addsRuling 34 = .ok (.aload_n 0, 1) := by decide +kernel
theorem dX6_addsRuling_35 : decode cX6_addsRuling 35 = .ok (.getfield 7, 3) := by decide +kernel
theorem dX6_addsRuling_38 : decode cX6_addsRuling 38 = .ok (.iload 6, 2) := by decide +kernel
theorem dX6_addsRuling_40 : decode cX6_addsRuling 40 = .ok (.iconst 2, 1) := by decide +kernel
theorem dX6_addsRuling_41 : decode cX6_addsRuling 41 = .ok (.iadd, 1) := by decide +kernel
theorem dX6_addsRuling_42 : decode cX6_addsRuling 42 = .ok (.iload_n 3, 1) := by decide +kernel
theorem dX6_addsRuling_43 : decode cX6_addsRuling 43 = .ok (.ifCond .eq 7, 3) := by decide +kernel
theorem dX6_addsRuling_46 : decode cX6_addsRuling 46 = .ok (.iconst 1, 1) := by decide +kernel
theorem dX6_addsRuling_47 : decode cX6_addsRuling 47 = .ok (.goto 4, 3) := by decide +kernel
theorem dX6_addsRuling_50 : decode cX6_addsRuling 50 = .ok (.iconst 0, 1) := by decide +kernel
theorem dX6_addsRuling_51 : decode cX6_addsRuling 51 = .ok (.iastore, 1) := by decide +kernel
theorem dX6_addsRuling_52 : decode cX6_addsRuling 52 = .ok (.aload_n 0, 1) := by decide +kernel
theorem dX6_addsRuling_53 : decode cX6_addsRuling 53 = .ok (.getfield 7, 3) := by decide +kernel
theorem dX6_addsRuling_56 : decode cX6_addsRuling 56 = .ok (.iload 6, 2) := by decide +kernel
theorem dX6_addsRuling_58 : decode cX6_addsRuling 58 = .ok (.iconst 3, 1) := by decide +kernel
theorem dX6_addsRuling_59 : decode cX6_addsRuling 59 = .ok (.iadd, 1) := by decide +kernel
theorem dX6_addsRuling_60 : decode cX6_addsRuling 60 = .ok (.iload 4, 2) := by decide +kernel
theorem dX6_addsRuling_62 : decode cX6_addsRuling 62 = .ok (.iastore, 1) := by decide +kernel
theorem dX6_addsRuling_63 : decode cX6_addsRuling 63 = .ok (.aload_n 0, 1) := by decide +kernel
theorem dX6_addsRuling_64 : decode cX6_addsRuling 64 = .ok (.getfield 7, 3) := by decide +kernel
theorem dX6_addsRuling_67 : decode cX6_addsRuling 67 = .ok (.iload 6, 2) := by decide +kernel
theorem dX6_addsRuling_69 : decode cX6_addsRuling 69 = .ok (.iconst 4, 1) := by decide +kernel
theorem dX6_addsRuling_70 : decode cX6_addsRuling 70 = .ok (.iadd, 1) := by decide +kernel
theorem dX6_addsRuling_71 : decode cX6_addsRuling 71 = .ok (.iload 5, 2) := by decide +kernel
theorem dX6_addsRuling_73 : decode cX6_addsRuling 73 = .ok (.iconst 1, 1) := by decide +kernel
theorem dX6_addsRuling_74 : decode cX6_addsRuling 74 = .ok (.iadd, 1) := by decide +kernel
theorem dX6_addsRuling_75 : decode cX6_addsRuling 75 = .ok (.iastore, 1) := by decide +kernel
theorem dX6_addsRuling_76 : decode cX6_addsRuling 76 = .ok (.aload_n 0, 1) := by decide +kernel
theorem dX6_addsRuling_77 : decode cX6_addsRuling 77 = .ok (.getfield 7, 3) := by decide +kernel
theorem dX6_addsRuling_80 : decode cX6_addsRuling 80 = .ok (.iload 6, 2) := by decide +kernel
theorem dX6_addsRuling_82 : decode cX6_addsRuling 82 = .ok (.iconst 5, 1) := by decide +kernel
theorem dX6_addsRuling_83 : decode cX6_addsRuling 83 = .ok (.iadd, 1) := by decide +kernel
theorem dX6_addsRuling_84 : decode cX6_addsRuling 84 = .ok (.iconst 0, 1) := by decide +kernel
theorem dX6_addsRuling_85 : decode cX6_addsRuling 85 = .ok (.iastore, 1) := by decide +kernel
theorem dX6_addsRuling_86 : decode cX6_addsRuling 86 = .ok (.aload_n 0, 1) := by decide +kernel
theorem dX6_addsRuling_87 : decode cX6_addsRuling 87 = .ok (.getfield 7, 3) := by decide +kernel
theorem dX6_addsRuling_90 : decode cX6_addsRuling 90 = .ok (.iconst 4, 1) := by decide +kernel
theorem dX6_addsRuling_91 : decode cX6_addsRuling 91 = .ok (.dup2, 1) := by decide +kernel
theorem dX6_addsRuling_92 : decode cX6_addsRuling 92 = .ok (.iaload, 1) := by decide +kernel
theorem dX6_addsRuling_93 : decode cX6_addsRuling 93 = .ok (.iconst 1, 1) := by decide +kernel
theorem dX6_addsRuling_94 : decode cX6_addsRuling 94 = .ok (.iadd, 1) := by decide +kernel
theorem dX6_addsRuling_95 : decode cX6_addsRuling 95 = .ok (.iastore, 1) := by decide +kernel
theorem dX6_addsRuling_96 : decode cX6_addsRuling 96 = .ok (.return_, 1) := by decide +kernel
theorem dX6_isRule_0 : decode cX6_isRule 0 = .ok (.iload_n 0, 1) := by decide +kernel
theorem dX6_isRule_1 : decode cX6_isRule 1 = .ok (.invokestatic 109, 3) := by decide +kernel
theorem dX6_isRule_4 : decode cX6_isRule 4 = .ok (.ifCond .eq 24, 3) := by decide +kernel
theorem dX6_isRule_7 : decode cX6_isRule 7 = .ok (.iload_n 1, 1) := by decide +kernel
theorem dX6_isRule_8 : decode cX6_isRule 8 = .ok (.invokestatic 109, 3) := by decide +kernel
theorem dX6_isRule_11 : decode cX6_isRule 11 = .ok (.ifCond .eq 17, 3) := by decide +kernel
theorem dX6_isRule_14 : decode cX6_isRule 14 = .ok (.iload_n 2, 1) := by decide +kernel
theorem dX6_isRule_15 : decode cX6_isRule 15 = .ok (.iconst 1, 1) := by decide +kernel
theorem dX6_isRule_16 : decode cX6_isRule 16 = .ok (.bipush 20, 2) := by decide +kernel
theorem dX6_isRule_18 : decode cX6_isRule 18 = .ok (.invokestatic 42, 3) := by decide +kernel
theorem dX6_isRule_21 : decode cX6_isRule 21 = .ok (.ifCond .eq 7, 3) := by decide +kernel
theorem dX6_isRule_24 : decode cX6_isRule 24 = .ok (.iconst 1, 1) := by decide +kernel
theorem dX6_isRule_25 : decode cX6_isRule 25 = .ok (.goto 4, 3) := by decide +kernel
theorem dX6_isRule_28 : decode cX6_isRule 28 = .ok (.iconst 0, 1) := by decide +kernel
theorem dX6_isRule_29 : decode cX6_isRule 29 = .ok (.ireturn, 1) := by decide +kernel
theorem dX6_rule_0 : decode cX6_rule 0 = .ok (.iload_n 1, 1) := by decide +kernel
theorem dX6_rule_1 : decode cX6_rule 1 = .ok (.iload_n 2, 1) := by decide +kernel
theorem dX6_rule_2 : decode cX6_rule 2 = .ok (.iload 4, 2) := by decide +kernel
theorem dX6_rule_4 : decode cX6_rule 4 = .ok (.invokestatic 115, 3) := by decide +kernel
theorem dX6_rule_7 : decode cX6_rule 7 = .ok (.ifCond .eq 18, 3) := by decide +kernel
theorem dX6_rule_10 : decode cX6_rule 10 = .ok (.iload 5, 2) := by decide +kernel
theorem dX6_rule_12 : decode cX6_rule 12 = .ok (.iconst (-1), 1) := by decide +kernel
theorem dX6_rule_13 : decode cX6_rule 13 = .ok (.if_icmp .eq 14, 3) := by decide +kernel
theorem dX6_rule_16 : decode cX6_rule 16 = .ok (.aload_n 0, 1) := by decide +kernel
theorem dX6_rule_17 : decode cX6_rule 17 = .ok (.iload 5, 2) := by decide +kernel
theorem dX6_rule_19 : decode cX6_rule 19 = .ok (.invokevirtual 118, 3) := by decide +kernel
theorem dX6_rule_22 : decode cX6_rule 22 = .ok (.ifCond .ne 5, 3) := by decide +kernel
theorem dX6_rule_25 : decode cX6_rule 25 = .ok (.iconst (-1), 1) := by decide +kernel
theorem dX6_rule_26 : decode cX6_rule 26 = .ok (.ireturn, 1) := by decide +kernel
theorem dX6_rule_27 : decode cX6_rule 27 = .ok (.aload_n 0, 1) := by decide +kernel
theorem dX6_rule_28 : decode cX6_rule 28 = .ok (.getfield 7, 3) := by decide +kernel
theorem dX6_rule_31 : decode cX6_rule 31 = .ok (.iconst 4, 1) := by decide +kernel
theorem dX6_rule_32 : decode cX6_rule 32 = .ok (.iaload, 1) := by decide +kernel
theorem dX6_rule_33 : decode cX6_rule 33 = .ok (.bipush 10, 2) := by decide +kernel
theorem dX6_rule_35 : decode cX6_rule 35 = .ok (.if_icmp .ne 6, 3) := by decide +kernel
theorem dX6_rule_38 : decode cX6_rule 38 = .ok (.bipush (-3), 2) := by decide +kernel
theorem dX6_rule_40 : decode cX6_rule 40 = .ok (.ireturn, 1) := by decide +kernel
theorem dX6_rule_41 : decode cX6_rule 41 = .ok (.aload_n 0, 1) := by decide +kernel
theorem dX6_rule_42 : decode cX6_rule 42 = .ok (.invokevirtual 112, 3) := by decide +kernel
theorem dX6_rule_45 : decode cX6_rule 45 = .ok (.aload_n 0, 1) := by decide +kernel
theorem dX6_rule_46 : decode cX6_rule 46 = .ok (.iload_n 1, 1) := by decide +kernel
theorem dX6_rule_47 : decode cX6_rule 47 = .ok (.iload_n 2, 1) := by decide +kernel
theorem dX6_rule_48 : decode cX6_rule 48 = .ok (.iload_n 3, 1) := by decide +kernel
theorem dX6_rule_49 : decode cX6_rule 49 = .ok (.iload 4, 2) := by decide +kernel
theorem dX6_rule_51 : decode cX6_rule 51 = .ok (.iload 5, 2) := by decide +kernel
theorem dX6_rule_53 : decode cX6_rule 53 = .ok (.invokevirtual 121, 3) := by decide +kernel
theorem dX6_rule_56 : decode cX6_rule 56 = .ok (.aload_n 0, 1) := by decide +kernel
theorem dX6_rule_57 : decode cX6_rule 57 = .ok (.getfield 7, 3) := by decide +kernel
theorem dX6_rule_60 : decode cX6_rule 60 = .ok (.iconst 4, 1) := by decide +kernel
theorem dX6_rule_61 : decode cX6_rule 61 = .ok (.iaload, 1) := by decide +kernel
theorem dX6_rule_62 : decode cX6_rule 62 = .ok (.iconst 1, 1) := by decide +kernel
theorem dX6_rule_63 : decode cX6_rule 63 = .ok (.isub, 1) := by decide +kernel
theorem dX6_rule_64 : decode cX6_rule 64 = .ok (.ireturn, 1) := by decide +kernel
theorem dX6_overrule_0 : decode cX6_overrule 0 = .ok (.aload_n 0, 1) := by decide +kernel
theorem dX6_overrule_1 : decode cX6_overrule 1 = .ok (.iload_n 1, 1) := by decide +kernel
theorem dX6_overrule_2 : decode cX6_overrule 2 = .ok (.invokevirtual 118, 3) := by decide +kernel
theorem dX6_overrule_5 : decode cX6_overrule 5 = .ok (.ifCond .ne 5, 3) := by decide +kernel
theorem dX6_overrule_8 : decode cX6_overrule 8 = .ok (.iconst (-1), 1) := by decide +kernel
theorem dX6_overrule_9 : decode cX6_overrule 9 = .ok (.ireturn, 1) := by decide +kernel
theorem dX6_overrule_10 : decode cX6_overrule 10 = .ok (.aload_n 0, 1) := by decide +kernel
theorem dX6_overrule_11 : decode cX6_overrule 11 = .ok (.iload_n 1, 1) := by decide +kernel
theorem dX6_overrule_12 : decode cX6_overrule 12 = .ok (.iconst 5, 1) := by decide +kernel
theorem dX6_overrule_13 : decode cX6_overrule 13 = .ok (.invokevirtual 46, 3) := by decide +kernel
theorem dX6_overrule_16 : decode cX6_overrule 16 = .ok (.iconst 1, 1) := by decide +kernel
theorem dX6_overrule_17 : decode cX6_overrule 17 = .ok (.if_icmp .ne 6, 3) := by decide +kernel
theorem dX6_overrule_20 : decode cX6_overrule 20 = .ok (.bipush (-2), 2) := by decide +kernel
theorem dX6_overrule_22 : decode cX6_overrule 22 = .ok (.ireturn, 1) := by decide +kernel
theorem dX6_overrule_23 : decode cX6_overrule 23 = .ok (.aload_n 0, 1) := by decide +kernel
theorem dX6_overrule_24 : decode cX6_overrule 24 = .ok (.invokevirtual 112, 3) := by decide +kernel
theorem dX6_overrule_27 : decode cX6_overrule 27 = .ok (.aload_n 0, 1) := by decide +kernel
theorem dX6_overrule_28 : decode cX6_overrule 28 = .ok (.invokevirtual 125, 3) := by decide +kernel
theorem dX6_overrule_31 : decode cX6_overrule 31 = .ok (.istore_n 2, 1) := by decide +kernel
theorem dX6_overrule_32 : decode cX6_overrule 32 = .ok (.aload_n 0, 1) := by decide +kernel
theorem dX6_overrule_33 : decode cX6_overrule 33 = .ok (.getfield 7, 3) := by decide +kernel
theorem dX6_overrule_36 : decode cX6_overrule 36 = .ok (.bipush 13, 2) := by decide +kernel
theorem dX6_overrule_38 : decode cX6_overrule 38 = .ok (.bipush 6, 2) := by decide +kernel
theorem dX6_overrule_40 : decode cX6_overrule 40 = .ok (.iload_n 1, 1) := by decide +kernel
theorem dX6_overrule_41 : decode cX6_overrule 41 = .ok (.imul, 1) := by decide +kernel
theorem dX6_overrule_42 : decode cX6_overrule 42 = .ok (.iadd, 1) := by decide +kernel
theorem dX6_overrule_43 : decode cX6_overrule 43 = .ok (.iconst 5, 1) := by decide +kernel
theorem dX6_overrule_44 : decode cX6_overrule 44 = .ok (.iadd, 1) := by decide +kernel
theorem dX6_overrule_45 : decode cX6_overrule 45 = .ok (.iconst 1, 1) := by decide +kernel
theorem dX6_overrule_46 : decode cX6_overrule 46 = .ok (.iastore, 1) := by decide +kernel
theorem dX6_overrule_47 : decode cX6_overrule 47 = .ok (.iload_n 2, 1) := by decide +kernel
theorem dX6_overrule_48 : decode cX6_overrule 48 = .ok (.aload_n 0, 1) := by decide +kernel
theorem dX6_overrule_49 : decode cX6_overrule 49 = .ok (.invokevirtual 125, 3) := by decide +kernel
theorem dX6_overrule_52 : decode cX6_overrule 52 = .ok (.isub, 1) := by decide +kernel
theorem dX6_overrule_53 : decode cX6_overrule 53 = .ok (.ireturn, 1) := by decide +kernel
theorem dX6_drop_0 : decode cX6_drop 0 = .ok (.aload_n 0, 1) := by decide +kernel
theorem dX6_drop_1 : decode cX6_drop 1 = .ok (.iload_n 1, 1) := by decide +kernel
theorem dX6_drop_2 : decode cX6_drop 2 = .ok (.invokevirtual 57, 3) := by decide +kernel
theorem dX6_drop_5 : decode cX6_drop 5 = .ok (.ifCond .ne 5, 3) := by decide +kernel
theorem dX6_drop_8 : decode cX6_drop 8 = .ok (.iconst (-1), 1) := by decide +kernel
theorem dX6_drop_9 : decode cX6_drop 9 = .ok (.ireturn, 1) := by decide +kernel
theorem dX6_drop_10 : decode cX6_drop 10 = .ok (.aload_n 0, 1) := by decide +kernel
theorem dX6_drop_11 : decode cX6_drop 11 = .ok (.invokevirtual 112, 3) := by decide +kernel
theorem dX6_drop_14 : decode cX6_drop 14 = .ok (.aload_n 0, 1) := by decide +kernel
theorem dX6_drop_15 : decode cX6_drop 15 = .ok (.getfield 7, 3) := by decide +kernel
theorem dX6_drop_18 : decode cX6_drop 18 = .ok (.iconst 3, 1) := by decide +kernel
theorem dX6_drop_19 : decode cX6_drop 19 = .ok (.dup2, 1) := by decide +kernel
theorem dX6_drop_20 : decode cX6_drop 20 = .ok (.iaload, 1) := by decide +kernel
theorem dX6_drop_21 : decode cX6_drop 21 = .ok (.iconst 1, 1) := by decide +kernel
theorem dX6_drop_22 : decode cX6_drop 22 = .ok (.isub, 1) := by decide +kernel
theorem dX6_drop_23 : decode cX6_drop 23 = .ok (.iastore, 1) := by decide +kernel
theorem dX6_drop_24 : decode cX6_drop 24 = .ok (.bipush 73, 2) := by decide +kernel
theorem dX6_drop_26 : decode cX6_drop 26 = .ok (.bipush 16, 2) := by decide +kernel
theorem dX6_drop_28 : decode cX6_drop 28 = .ok (.iload_n 1, 1) := by decide +kernel
theorem dX6_drop_29 : decode cX6_drop 29 = .ok (.imul, 1) := by decide +kernel
theorem dX6_drop_30 : decode cX6_drop 30 = .ok (.iadd, 1) := by decide +kernel
theorem dX6_drop_31 : decode cX6_drop 31 = .ok (.istore_n 2, 1) := by decide +kernel
theorem dX6_drop_32 : decode cX6_drop 32 = .ok (.iload_n 2, 1) := by decide +kernel
theorem dX6_drop_33 : decode cX6_drop 33 = .ok (.sipush 137, 3) := by decide +kernel
theorem dX6_drop_36 : decode cX6_drop 36 = .ok (.if_icmp .ge 38, 3) := by decide +kernel
theorem dX6_drop_39 : decode cX6_drop 39 = .ok (.aload_n 0, 1) := by decide +kernel
theorem dX6_drop_40 : decode cX6_drop 40 = .ok (.getfield 7, 3) := by decide +kernel
theorem dX6_drop_43 : decode cX6_drop 43 = .ok (.iload_n 2, 1) := by decide +kernel
theorem dX6_drop_44 : decode cX6_drop 44 = .ok (.iload_n 2, 1) := by decide +kernel
theorem dX6_drop_45 : decode cX6_drop 45 = .ok (.bipush 16, 2) := by decide +kernel
theorem dX6_drop_47 : decode cX6_drop 47 = .ok (.iadd, 1) := by decide +kernel
theorem dX6_drop_48 : decode cX6_drop 48 = .ok (.sipush 137, 3) := by decide +kernel
theorem dX6_drop_51 : decode cX6_drop 51 = .ok (.if_icmp .ge 15, 3) := by decide +kernel
theorem dX6_drop_54 : decode cX6_drop 54 = .ok (.aload_n 0, 1) := by decide +kernel
theorem dX6_drop_55 : decode cX6_drop 55 = .ok (.getfield 7, 3) := by decide +kernel
theorem dX6_drop_58 : decode cX6_drop 58 = .ok (.iload_n 2, 1) := by decide +kernel
theorem dX6_drop_59 : decode cX6_drop 59 = .ok (.bipush 16, 2) := by decide +kernel
theorem dX6_drop_61 : decode cX6_drop 61 = .ok (.iadd, 1) := by decide +kernel
theorem dX6_drop_62 : decode cX6_drop 62 = .ok (.iaload, 1) := by decide +kernel
theorem dX6_drop_63 : decode cX6_drop 63 = .ok (.goto 4, 3) := by decide +kernel
theorem dX6_drop_66 : decode cX6_drop 66 = .ok (.iconst 0, 1) := by decide +kernel
theorem dX6_drop_67 : decode cX6_drop 67 = .ok (.iastore, 1) := by decide +kernel
theorem dX6_drop_68 : decode cX6_drop 68 = .ok (.iinc 2 1, 3) := by decide +kernel
theorem dX6_drop_71 : decode cX6_drop 71 = .ok (.goto (-39), 3) := by decide +kernel
theorem dX6_drop_74 : decode cX6_drop 74 = .ok (.aload_n 0, 1) := by decide +kernel
theorem dX6_drop_75 : decode cX6_drop 75 = .ok (.getfield 7, 3) := by decide +kernel
theorem dX6_drop_78 : decode cX6_drop 78 = .ok (.iconst 3, 1) := by decide +kernel
theorem dX6_drop_79 : decode cX6_drop 79 = .ok (.iaload, 1) := by decide +kernel
theorem dX6_drop_80 : decode cX6_drop 80 = .ok (.ireturn, 1) := by decide +kernel
theorem dX6_sue_0 : decode cX6_sue 0 = .ok (.aload_n 0, 1) := by decide +kernel
theorem dX6_sue_1 : decode cX6_sue 1 = .ok (.iload_n 1, 1) := by decide +kernel
theorem dX6_sue_2 : decode cX6_sue 2 = .ok (.iload_n 2, 1) := by decide +kernel
theorem dX6_sue_3 : decode cX6_sue 3 = .ok (.invokevirtual 129, 3) := by decide +kernel
theorem dX6_sue_6 : decode cX6_sue 6 = .ok (.ifCond .ne 5, 3) := by decide +kernel
theorem dX6_sue_9 : decode cX6_sue 9 = .ok (.iconst (-1), 1) := by decide +kernel
theorem dX6_sue_10 : decode cX6_sue 10 = .ok (.ireturn, 1) := by decide +kernel
theorem dX6_sue_11 : decode cX6_sue 11 = .ok (.aload_n 0, 1) := by decide +kernel
theorem dX6_sue_12 : decode cX6_sue 12 = .ok (.invokevirtual 112, 3) := by decide +kernel
theorem dX6_sue_15 : decode cX6_sue 15 = .ok (.aload_n 0, 1) := by decide +kernel
theorem dX6_sue_16 : decode cX6_sue 16 = .ok (.iload_n 1, 1) := by decide +kernel
theorem dX6_sue_17 : decode cX6_sue 17 = .ok (.iload_n 2, 1) := by decide +kernel
theorem dX6_sue_18 : decode cX6_sue 18 = .ok (.invokevirtual 132, 3) := by decide +kernel
theorem dX6_sue_21 : decode cX6_sue 21 = .ok (.ireturn, 1) := by decide +kernel
theorem dX6_stay_0 : decode cX6_stay 0 = .ok (.aload_n 0, 1) := by decide +kernel
theorem dX6_stay_1 : decode cX6_stay 1 = .ok (.iload_n 1, 1) := by decide +kernel
theorem dX6_stay_2 : decode cX6_stay 2 = .ok (.invokevirtual 57, 3) := by decide +kernel
theorem dX6_stay_5 : decode cX6_stay 5 = .ok (.ifCond .eq 13, 3) := by decide +kernel
theorem dX6_stay_8 : decode cX6_stay 8 = .ok (.iload_n 2, 1) := by decide +kernel
theorem dX6_stay_9 : decode cX6_stay 9 = .ok (.iconst 0, 1) := by decide +kernel
theorem dX6_stay_10 : decode cX6_stay 10 = .ok (.bipush 30, 2) := by decide +kernel
theorem dX6_stay_12 : decode cX6_stay 12 = .ok (.invokestatic 42, 3) := by decide +kernel
theorem dX6_stay_15 : decode cX6_stay 15 = .ok (.ifCond .ne 5, 3) := by decide +kernel
theorem dX6_stay_18 : decode cX6_stay 18 = .ok (.iconst (-1), 1) := by decide +kernel
theorem dX6_stay_19 : decode cX6_stay 19 = .ok (.ireturn, 1) := by decide +kernel
theorem dX6_stay_20 : decode cX6_stay 20 = .ok (.aload_n 0, 1) := by decide +kernel
theorem dX6_stay_21 : decode cX6_stay 21 = .ok (.invokevirtual 112, 3) := by decide +kernel
theorem dX6_stay_24 : decode cX6_stay 24 = .ok (.aload_n 0, 1) := by decide +kernel
theorem dX6_stay_25 : decode cX6_stay 25 = .ok (.iload_n 1, 1) := by decide +kernel
theorem dX6_stay_26 : decode cX6_stay 26 = .ok (.iconst 2, 1) := by decide +kernel
theorem dX6_stay_27 : decode cX6_stay 27 = .ok (.invokevirtual 60, 3) := by decide +kernel
theorem dX6_stay_30 : decode cX6_stay 30 = .ok (.istore_n 3, 1) := by decide +kernel
theorem dX6_stay_31 : decode cX6_stay 31 = .ok (.aload_n 0, 1) := by decide +kernel
theorem dX6_stay_32 : decode cX6_stay 32 = .ok (.iload_n 1, 1) := by decide +kernel
theorem dX6_stay_33 : decode cX6_stay 33 = .ok (.iconst 2, 1) := by decide +kernel
theorem dX6_stay_34 : decode cX6_stay 34 = .ok (.aload_n 0, 1) := by decide +kernel
theorem dX6_stay_35 : decode cX6_stay 35 = .ok (.getfield 7, 3) := by decide +kernel
theorem dX6_stay_38 : decode cX6_stay 38 = .ok (.iconst 0, 1) := by decide +kernel
theorem dX6_stay_39 : decode cX6_stay 39 = .ok (.iaload, 1) := by decide +kernel
theorem dX6_stay_40 : decode cX6_stay 40 = .ok (.iload_n 2, 1) := by decide +kernel
theorem dX6_stay_41 : decode cX6_stay 41 = .ok (.iadd, 1) := by decide +kernel
theorem dX6_stay_42 : decode cX6_stay 42 = .ok (.invokevirtual 105, 3) := by decide +kernel
theorem dX6_stay_45 : decode cX6_stay 45 = .ok (.iload_n 3, 1) := by decide +kernel
theorem dX6_stay_46 : decode cX6_stay 46 = .ok (.ireturn, 1) := by decide +kernel
theorem dX6_day_0 : decode cX6_day 0 = .ok (.aload_n 0, 1) := by decide +kernel
theorem dX6_day_1 : decode cX6_day 1 = .ok (.invokevirtual 112, 3) := by decide +kernel
theorem dX6_day_4 : decode cX6_day 4 = .ok (.aload_n 0, 1) := by decide +kernel
theorem dX6_day_5 : decode cX6_day 5 = .ok (.getfield 7, 3) := by decide +kernel
theorem dX6_day_8 : decode cX6_day 8 = .ok (.iconst 0, 1) := by decide +kernel
theorem dX6_day_9 : decode cX6_day 9 = .ok (.dup2, 1) := by decide +kernel
theorem dX6_day_10 : decode cX6_day 10 = .ok (.iaload, 1) := by decide +kernel
theorem dX6_day_11 : decode cX6_day 11 = .ok (.iconst 1, 1) := by decide +kernel
theorem dX6_day_12 : decode cX6_day 12 = .ok (.iadd, 1) := by decide +kernel
theorem dX6_day_13 : decode cX6_day 13 = .ok (.iastore, 1) := by decide +kernel
theorem dX6_day_14 : decode cX6_day 14 = .ok (.aload_n 0, 1) := by decide +kernel
theorem dX6_day_15 : decode cX6_day 15 = .ok (.getfield 7, 3) := by decide +kernel
theorem dX6_day_18 : decode cX6_day 18 = .ok (.iconst 0, 1) := by decide +kernel
theorem dX6_day_19 : decode cX6_day 19 = .ok (.iaload, 1) := by decide +kernel
theorem dX6_day_20 : decode cX6_day 20 = .ok (.ireturn, 1) := by decide +kernel
theorem dX6_append_0 : decode cX6_append 0 = .ok (.iload_n 1, 1) := by decide +kernel
theorem dX6_append_1 : decode cX6_append 1 = .ok (.bipush 33, 2) := by decide +kernel
theorem dX6_append_3 : decode cX6_append 3 = .ok (.bipush 126, 2) := by decide +kernel
theorem dX6_append_5 : decode cX6_append 5 = .ok (.invokestatic 42, 3) := by decide +kernel
theorem dX6_append_8 : decode cX6_append 8 = .ok (.ifCond .ne 5, 3) := by decide +kernel
theorem dX6_append_11 : decode cX6_append 11 = .ok (.iconst (-1), 1) := by decide +kernel
theorem dX6_append_12 : decode cX6_append 12 = .ok (.ireturn, 1) := by decide +kernel
theorem dX6_append_13 : decode cX6_append 13 = .ok (.aload_n 0, 1) := by decide +kernel
theorem dX6_append_14 : decode cX6_append 14 = .ok (.getfield 135, 3) := by decide +kernel
theorem dX6_append_17 : decode cX6_append 17 = .ok (.bipush 60, 2) := by decide +kernel
theorem dX6_append_19 : decode cX6_append 19 = .ok (.if_icmp .ne 6, 3) := by decide +kernel
theorem dX6_append_22 : decode cX6_append 22 = .ok (.bipush (-3), 2) := by decide +kernel
theorem dX6_append_24 : decode cX6_append 24 = .ok (.ireturn, 1) := by decide +kernel
theorem dX6_append_25 : decode cX6_append 25 = .ok (.aload_n 0, 1) := by decide +kernel
theorem dX6_append_26 : decode cX6_append 26 = .ok (.getfield 19, 3) := by decide +kernel
theorem dX6_append_29 : decode cX6_append 29 = .ok (.aload_n 0, 1) := by decide +kernel
theorem dX6_append_30 : decode cX6_append 30 = .ok (.getfield 135, 3) := by decide +kernel
theorem dX6_append_33 : decode cX6_append 33 = .ok (.iload_n 1, 1) := by decide +kernel
theorem dX6_append_34 : decode cX6_append 34 = .ok (.iastore, 1) := by decide +kernel
theorem dX6_append_35 : decode cX6_append 35 = .ok (.aload_n 0, 1) := by decide +kernel
theorem dX6_append_36 : decode cX6_append 36 = .ok (.dup, 1) := by decide +kernel
theorem dX6_append_37 : decode cX6_append 37 = .ok (.getfield 135, 3) := by decide +kernel
theorem dX6_append_40 : decode cX6_append 40 = .ok (.iconst 1, 1) := by decide +kernel
theorem dX6_append_41 : decode cX6_append 41 = .ok (.iadd, 1) := by decide +kernel
theorem dX6_append_42 : decode cX6_append 42 = .ok (.putfield 135, 3) := by decide +kernel
theorem dX6_append_45 : decode cX6_append 45 = .ok (.aload_n 0, 1) := by decide +kernel
theorem dX6_append_46 : decode cX6_append 46 = .ok (.getfield 135, 3) := by decide +kernel
theorem dX6_append_49 : decode cX6_append 49 = .ok (.ireturn, 1) := by decide +kernel
theorem dX6_clear_0 : decode cX6_clear 0 = .ok (.aload_n 0, 1) := by decide +kernel
theorem dX6_clear_1 : decode cX6_clear 1 = .ok (.getfield 135, 3) := by decide +kernel
theorem dX6_clear_4 : decode cX6_clear 4 = .ok (.istore_n 1, 1) := by decide +kernel
theorem dX6_clear_5 : decode cX6_clear 5 = .ok (.aload_n 0, 1) := by decide +kernel
theorem dX6_clear_6 : decode cX6_clear 6 = .ok (.iconst 0, 1) := by decide +kernel
theorem dX6_clear_7 : decode cX6_clear 7 = .ok (.putfield 135, 3) := by decide +kernel
theorem dX6_clear_10 : decode cX6_clear 10 = .ok (.iload_n 1, 1) := by decide +kernel
theorem dX6_clear_11 : decode cX6_clear 11 = .ok (.ireturn, 1) := by decide +kernel
theorem dX6_here_0 : decode cX6_here 0 = .ok (.aload_n 0, 1) := by decide +kernel
theorem dX6_here_1 : decode cX6_here 1 = .ok (.getfield 138, 3) := by decide +kernel
theorem dX6_here_4 : decode cX6_here 4 = .ok (.aload_n 0, 1) := by decide +kernel
theorem dX6_here_5 : decode cX6_here 5 = .ok (.getfield 135, 3) := by decide +kernel
theorem dX6_here_8 : decode cX6_here 8 = .ok (.if_icmp .ge 15, 3) := by decide +kernel
theorem dX6_here_11 : decode cX6_here 11 = .ok (.aload_n 0, 1) := by decide +kernel
theorem dX6_here_12 : decode cX6_here 12 = .ok (.getfield 19, 3) := by decide +kernel
theorem dX6_here_15 : decode cX6_here 15 = .ok (.aload_n 0, 1) := by decide +kernel
theorem dX6_here_16 : decode cX6_here 16 = .ok (.getfield 138, 3) := by decide +kernel
theorem dX6_here_19 : decode cX6_here 19 = .ok (.iaload, 1) := by decide +kernel
theorem dX6_here_20 : decode cX6_here 20 = .ok (.goto 4, 3) := by decide +kernel
theorem dX6_here_23 : decode cX6_here 23 = .ok (.iconst 0, 1) := by decide +kernel
theorem dX6_here_24 : decode cX6_here 24 = .ok (.ireturn, 1) := by decide +kernel
theorem dX6_takes_0 : decode cX6_takes 0 = .ok (.aload_n 0, 1) := by decide +kernel
theorem dX6_takes_1 : decode cX6_takes 1 = .ok (.aload_n 0, 1) := by decide +kernel
theorem dX6_takes_2 : decode cX6_takes 2 = .ok (.getfield 141, 3) := by decide +kernel
theorem dX6_takes_5 : decode cX6_takes 5 = .ok (.ifCond .eq 11, 3) := by decide +kernel
theorem dX6_takes_8 : decode cX6_takes 8 = .ok (.iload_n 1, 1) := by decide +kernel
theorem dX6_takes_9 : decode cX6_takes 9 = .ok (.ifCond .eq 7, 3) := by decide +kernel
theorem dX6_takes_12 : decode cX6_takes 12 = .ok (.iconst 1, 1) := by decide +kernel
theorem dX6_takes_13 : decode cX6_takes 13 = .ok (.goto 4, 3) := by decide +kernel
theorem dX6_takes_16 : decode cX6_takes 16 = .ok (.iconst 0, 1) := by decide +kernel
theorem dX6_takes_17 : decode cX6_takes 17 = .ok (.putfield 141, 3) := by decide +kernel
theorem dX6_takes_20 : decode cX6_takes 20 = .ok (.aload_n 0, 1) := by decide +kernel
theorem dX6_takes_21 : decode cX6_takes 21 = .ok (.dup, 1) := by decide +kernel
theorem dX6_takes_22 : decode cX6_takes 22 = .ok (.getfield 138, 3) := by decide +kernel
theorem dX6_takes_25 : decode cX6_takes 25 = .ok (.aload_n 0, 1) := by decide +kernel
theorem dX6_takes_26 : decode cX6_takes 26 = .ok (.getfield 141, 3) := by decide +kernel
theorem dX6_takes_29 : decode cX6_takes 29 = .ok (.ifCond .eq 7, 3) := by decide +kernel
theorem dX6_takes_32 : decode cX6_takes 32 = .ok (.iconst 1, 1) := by decide +kernel
theorem dX6_takes_33 : decode cX6_takes 33 = .ok (.goto 4, 3) := by decide +kernel
theorem dX6_takes_36 : decode cX6_takes 36 = .ok (.iconst 0, 1) := by decide +kernel
theorem dX6_takes_37 : decode cX6_takes 37 = .ok (.iadd, 1) := by decide +kernel
theorem dX6_takes_38 : decode cX6_takes 38 = .ok (.putfield 138, 3) := by decide +kernel
theorem dX6_takes_41 : decode cX6_takes 41 = .ok (.return_, 1) := by decide +kernel
theorem dX6_isWords_0 : decode cX6_isWords 0 = .ok (.aload_n 0, 1) := by decide +kernel
theorem dX6_isWords_1 : decode cX6_isWords 1 = .ok (.iconst 0, 1) := by decide +kernel
theorem dX6_isWords_2 : decode cX6_isWords 2 = .ok (.putfield 138, 3) := by decide +kernel
theorem dX6_isWords_5 : decode cX6_isWords 5 = .ok (.aload_n 0, 1) := by decide +kernel
theorem dX6_isWords_6 : decode cX6_isWords 6 = .ok (.iconst 1, 1) := by decide +kernel
theorem dX6_isWords_7 : decode cX6_isWords 7 = .ok (.putfield 141, 3) := by decide +kernel
theorem dX6_isWords_10 : decode cX6_isWords 10 = .ok (.aload_n 0, 1) := by decide +kernel
theorem dX6_isWords_11 : decode cX6_isWords 11 = .ok (.iconst 0, 1) := by decide +kernel
theorem dX6_isWords_12 : decode cX6_isWords 12 = .ok (.putfield 145, 3) := by decide +kernel
theorem dX6_isWords_15 : decode cX6_isWords 15 = .ok (.aload_n 0, 1) := by decide +kernel
theorem dX6_isWords_16 : decode cX6_isWords 16 = .ok (.iconst 0, 1) := by decide +kernel
theorem dX6_isWords_17 : decode cX6_isWords 17 = .ok (.putfield 148, 3) := by decide +kernel
theorem dX6_isWords_20 : decode cX6_isWords 20 = .ok (.iconst 1, 1) := by decide +kernel
theorem dX6_isWords_21 : decode cX6_isWords 21 = .ok (.istore_n 1, 1) := by decide +kernel
theorem dX6_isWords_22 : decode cX6_isWords 22 = .ok (.iload_n 1, 1) := by decide +kernel
theorem dX6_isWords_23 : decode cX6_isWords 23 = .ok (.ifCond .eq 153, 3) := by decide +kernel
theorem dX6_isWords_26 : decode cX6_isWords 26 = .ok (.aload_n 0, 1) := by decide +kernel
theorem dX6_isWords_27 : decode cX6_isWords 27 = .ok (.aload_n 0, 1) := by decide +kernel
theorem dX6_isWords_28 : decode cX6_isWords 28 = .ok (.invokevirtual 151, 3) := by decide +kernel
theorem dX6_isWords_31 : decode cX6_isWords 31 = .ok (.bipush 97, 2) := by decide +kernel
theorem dX6_isWords_33 : decode cX6_isWords 33 = .ok (.bipush 102, 2) := by decide +kernel
theorem dX6_isWords_35 : decode cX6_isWords 35 = .ok (.invokestatic 42, 3) := by decide +kernel
theorem dX6_isWords_38 : decode cX6_isWords 38 = .ok (.invokevirtual 154, 3) := by decide +kernel
theorem dX6_isWords_41 : decode cX6_isWords 41 = .ok (.aload_n 0, 1) := by decide +kernel
theorem dX6_isWords_42 : decode cX6_isWords 42 = .ok (.dup, 1) := by decide +kernel
theorem dX6_isWords_43 : decode cX6_isWords 43 = .ok (.getfield 145, 3) := by decide +kernel
theorem dX6_isWords_46 : decode cX6_isWords 46 = .ok (.aload_n 0, 1) := by decide +kernel
theorem dX6_isWords_47 : decode cX6_isWords 47 = .ok (.getfield 141, 3) := by decide +kernel
theorem dX6_isWords_50 : decode cX6_isWords 50 = .ok (.ifCond .eq 7, 3) := by decide +kernel
theorem dX6_isWords_53 : decode cX6_isWords 53 = .ok (.iconst 1, 1) := by decide +kernel
theorem dX6_isWords_54 : decode cX6_isWords 54 = .ok (.goto 4, 3) := by decide +kernel
theorem dX6_isWords_57 : decode cX6_isWords 57 = .ok (.iconst 0, 1) := by decide +kernel
theorem dX6_isWords_58 : decode cX6_isWords 58 = .ok (.iadd, 1) := by decide +kernel
theorem dX6_isWords_59 : decode cX6_isWords 59 = .ok (.putfield 145, 3) := by decide +kernel
theorem dX6_isWords_62 : decode cX6_isWords 62 = .ok (.aload_n 0, 1) := by decide +kernel
theorem dX6_isWords_63 : decode cX6_isWords 63 = .ok (.getfield 141, 3) := by decide +kernel
theorem dX6_isWords_66 : decode cX6_isWords 66 = .ok (.ifCond .eq 25, 3) := by decide +kernel
theorem dX6_isWords_69 : decode cX6_isWords 69 = .ok (.aload_n 0, 1) := by decide +kernel
theorem dX6_isWords_70 : decode cX6_isWords 70 = .ok (.getfield 145, 3) := by decide +kernel
theorem dX6_isWords_73 : decode cX6_isWords 73 = .ok (.bipush 12, 2) := by decide +kernel
theorem dX6_isWords_75 : decode cX6_isWords 75 = .ok (.if_icmp .ge 16, 3) := by decide +kernel
theorem dX6_isWords_78 : decode cX6_isWords 78 = .ok (.aload_n 0, 1) := by decide +kernel
theorem dX6_isWords_79 : decode cX6_isWords 79 = .ok (.invokevirtual 151, 3) := by decide +kernel
theorem dX6_isWords_82 : decode cX6_isWords 82 = .ok (.bipush 44, 2) := by decide +kernel
theorem dX6_isWords_84 : decode cX6_isWords 84 = .ok (.if_icmp .ne 7, 3) := by decide +kernel
theorem dX6_isWords_87 : decode cX6_isWords 87 = .ok (.iconst 1, 1) := by decide +kernel
theorem dX6_isWords_88 : decode cX6_isWords 88 = .ok (.goto 4, 3) := by decide +kernel
theorem dX6_isWords_91 : decode cX6_isWords 91 = .ok (.iconst 0, 1) := by decide +kernel
theorem dX6_isWords_92 : decode cX6_isWords 92 = .ok (.istore_n 2, 1) := by decide +kernel
theorem dX6_isWords_93 : decode cX6_isWords 93 = .ok (.aload_n 0, 1) := by decide +kernel
theorem dX6_isWords_94 : decode cX6_isWords 94 = .ok (.dup, 1) := by decide +kernel
theorem dX6_isWords_95 : decode cX6_isWords 95 = .ok (.getfield 148, 3) := by decide +kernel
theorem dX6_isWords_98 : decode cX6_isWords 98 = .ok (.iload_n 2, 1) := by decide +kernel
theorem dX6_isWords_99 : decode cX6_isWords 99 = .ok (.ifCond .eq 14, 3) := by decide +kernel
theorem dX6_isWords_102 : decode cX6_isWords 102 = .ok (.iconst 1, 1) := by decide +kernel
theorem dX6_isWords_103 : decode cX6_isWords 103 = .ok (.aload_n 0, 1) := by decide +kernel
theorem dX6_isWords_104 : decode cX6_isWords 104 = .ok (.getfield 145, 3) := by decide +kernel
theorem dX6_isWords_107 : decode cX6_isWords 107 = .ok (.iconst 1, 1) := by decide +kernel
theorem dX6_isWords_108 : decode cX6_isWords 108 = .ok (.isub, 1) := by decide +kernel
theorem dX6_isWords_109 : decode cX6_isWords 109 = .ok (.ishl, 1) := by decide +kernel
theorem dX6_isWords_110 : decode cX6_isWords 110 = .ok (.goto 4, 3) := by decide +kernel
theorem dX6_isWords_113 : decode cX6_isWords 113 = .ok (.iconst 0, 1) := by decide +kernel
theorem dX6_isWords_114 : decode cX6_isWords 114 = .ok (.ior, 1) := by decide +kernel
theorem dX6_isWords_115 : decode cX6_isWords 115 = .ok (.putfield 148, 3) := by decide +kernel
theorem dX6_isWords_118 : decode cX6_isWords 118 = .ok (.aload_n 0, 1) := by decide +kernel
theorem dX6_isWords_119 : decode cX6_isWords 119 = .ok (.dup, 1) := by decide +kernel
theorem dX6_isWords_120 : decode cX6_isWords 120 = .ok (.getfield 138, 3) := by decide +kernel
theorem dX6_isWords_123 : decode cX6_isWords 123 = .ok (.iload_n 2, 1) := by decide +kernel
theorem dX6_isWords_124 : decode cX6_isWords 124 = .ok (.ifCond .eq 7, 3) := by decide +kernel
theorem dX6_isWords_127 : decode cX6_isWords 127 = .ok (.iconst 1, 1) := by decide +kernel
theorem dX6_isWords_128 : decode cX6_isWords 128 = .ok (.goto 4, 3) := by decide +kernel
theorem dX6_isWords_131 : decode cX6_isWords 131 = .ok (.iconst 0, 1) := by decide +kernel
theorem dX6_isWords_132 : decode cX6_isWords 132 = .ok (.iadd, 1) := by decide +kernel
theorem dX6_isWords_133 : decode cX6_isWords 133 = .ok (.putfield 138, 3) := by decide +kernel
theorem dX6_isWords_136 : decode cX6_isWords 136 = .ok (.aload_n 0, 1) := by decide +kernel
theorem dX6_isWords_137 : decode cX6_isWords 137 = .ok (.getfield 141, 3) := by decide +kernel
theorem dX6_isWords_140 : decode cX6_isWords 140 = .ok (.ifCond .eq 31, 3) := by decide +kernel
theorem dX6_isWords_143 : decode cX6_isWords 143 = .ok (.iload_n 2, 1) := by decide +kernel
theorem dX6_isWords_144 : decode cX6_isWords 144 = .ok (.ifCond .ne 23, 3) := by decide +kernel
theorem dX6_isWords_147 : decode cX6_isWords 147 = .ok (.aload_n 0, 1) := by decide +kernel
theorem dX6_isWords_148 : decode cX6_isWords 148 = .ok (.getfield 145, 3) := by decide +kernel
theorem dX6_isWords_151 : decode cX6_isWords 151 = .ok (.bipush 12, 2) := by decide +kernel
theorem dX6_isWords_153 : decode cX6_isWords 153 = .ok (.if_icmp .ge 18, 3) := by decide +kernel
theorem dX6_isWords_156 : decode cX6_isWords 156 = .ok (.aload_n 0, 1) := by decide +kernel
theorem dX6_isWords_157 : decode cX6_isWords 157 = .ok (.getfield 138, 3) := by decide +kernel
theorem dX6_isWords_160 : decode cX6_isWords 160 = .ok (.aload_n 0, 1) := by decide +kernel
theorem dX6_isWords_161 : decode cX6_isWords 161 = .ok (.getfield 135, 3) := by decide +kernel
theorem dX6_isWords_164 : decode cX6_isWords 164 = .ok (.if_icmp .ge 7, 3) := by decide +kernel
theorem dX6_isWords_167 : decode cX6_isWords 167 = .ok (.iconst 1, 1) := by decide +kernel
theorem dX6_isWords_168 : decode cX6_isWords 168 = .ok (.goto 4, 3) := by decide +kernel
theorem dX6_isWords_171 : decode cX6_isWords 171 = .ok (.iconst 0, 1) := by decide +kernel
theorem dX6_isWords_172 : decode cX6_isWords 172 = .ok (.istore_n 1, 1) := by decide +kernel
theorem dX6_isWords_173 : decode cX6_isWords 173 = .ok (.goto (-151), 3) := by decide +kernel
theorem dX6_isWords_176 : decode cX6_isWords 176 = .ok (.aload_n 0, 1) := by decide +kernel
theorem dX6_isWords_177 : decode cX6_isWords 177 = .ok (.getfield 141, 3) := by decide +kernel
theorem dX6_isWords_180 : decode cX6_isWords 180 = .ok (.ifCond .eq 18, 3) := by decide +kernel
theorem dX6_isWords_183 : decode cX6_isWords 183 = .ok (.aload_n 0, 1) := by decide +kernel
theorem dX6_isWords_184 : decode cX6_isWords 184 = .ok (.getfield 138, 3) := by decide +kernel
theorem dX6_isWords_187 : decode cX6_isWords 187 = .ok (.aload_n 0, 1) := by decide +kernel
theorem dX6_isWords_188 : decode cX6_isWords 188 = .ok (.getfield 135, 3) := by decide +kernel
theorem dX6_isWords_191 : decode cX6_isWords 191 = .ok (.if_icmp .ne 7, 3) := by decide +kernel
theorem dX6_isWords_194 : decode cX6_isWords 194 = .ok (.iconst 1, 1) := by decide +kernel
theorem dX6_isWords_195 : decode cX6_isWords 195 = .ok (.goto 4, 3) := by decide +kernel
theorem dX6_isWords_198 : decode cX6_isWords 198 = .ok (.iconst 0, 1) := by decide +kernel
theorem dX6_isWords_199 : decode cX6_isWords 199 = .ok (.ireturn, 1) := by decide +kernel
theorem dX6_takesSuit_0 : decode cX6_takesSuit 0 = .ok (.aload_n 0, 1) := by decide +kernel
theorem dX6_takesSuit_1 : decode cX6_takesSuit 1 = .ok (.aload_n 0, 1) := by decide +kernel
theorem dX6_takesSuit_2 : decode cX6_takesSuit 2 = .ok (.invokevirtual 151, 3) := by decide +kernel
theorem dX6_takesSuit_5 : decode cX6_takesSuit 5 = .ok (.bipush 43, 2) := by decide +kernel
theorem dX6_takesSuit_7 : decode cX6_takesSuit 7 = .ok (.if_icmp .ne 7, 3) := by decide +kernel
theorem dX6_takesSuit_10 : decode cX6_takesSuit 10 = .ok (.iconst 1, 1) := by decide +kernel
theorem dX6_takesSuit_11 : decode cX6_takesSuit 11 = .ok (.goto 4, 3) := by decide +kernel
theorem dX6_takesSuit_14 : decode cX6_takesSuit 14 = .ok (.iconst 0, 1) := by decide +kernel
theorem dX6_takesSuit_15 : decode cX6_takesSuit 15 = .ok (.putfield 158, 3) := by decide +kernel
theorem dX6_takesSuit_18 : decode cX6_takesSuit 18 = .ok (.aload_n 0, 1) := by decide +kernel
theorem dX6_takesSuit_19 : decode cX6_takesSuit 19 = .ok (.getfield 158, 3) := by decide +kernel
theorem dX6_takesSuit_22 : decode cX6_takesSuit 22 = .ok (.ifCond .eq 14, 3) := by decide +kernel
theorem dX6_takesSuit_25 : decode cX6_takesSuit 25 = .ok (.aload_n 0, 1) := by decide +kernel
theorem dX6_takesSuit_26 : decode cX6_takesSuit 26 = .ok (.dup, 1) := by decide +kernel
theorem dX6_takesSuit_27 : decode cX6_takesSuit 27 = .ok (.getfield 138, 3) := by decide +kernel
theorem dX6_takesSuit_30 : decode cX6_takesSuit 30 = .ok (.iconst 1, 1) := by decide +kernel
theorem dX6_takesSuit_31 : decode cX6_takesSuit 31 = .ok (.iadd, 1) := by decide +kernel
theorem dX6_takesSuit_32 : decode cX6_takesSuit 32 = .ok (.putfield 138, 3) := by decide +kernel
theorem dX6_takesSuit_35 : decode cX6_takesSuit 35 = .ok (.return_, 1) := by decide +kernel
theorem dX6_takesSuit_36 : decode cX6_takesSuit 36 = .ok (.aload_n 0, 1) := by decide +kernel
theorem dX6_takesSuit_37 : decode cX6_takesSuit 37 = .ok (.aload_n 0, 1) := by decide +kernel
theorem dX6_takesSuit_38 : decode cX6_takesSuit 38 = .ok (.invokevirtual 151, 3) := by decide +kernel
theorem dX6_takesSuit_41 : decode cX6_takesSuit 41 = .ok (.bipush 48, 2) := by decide +kernel
theorem dX6_takesSuit_43 : decode cX6_takesSuit 43 = .ok (.isub, 1) := by decide +kernel
theorem dX6_takesSuit_44 : decode cX6_takesSuit 44 = .ok (.putfield 161, 3) := by decide +kernel
theorem dX6_takesSuit_47 : decode cX6_takesSuit 47 = .ok (.aload_n 0, 1) := by decide +kernel
theorem dX6_takesSuit_48 : decode cX6_takesSuit 48 = .ok (.aload_n 0, 1) := by decide +kernel
theorem dX6_takesSuit_49 : decode cX6_takesSuit 49 = .ok (.getfield 161, 3) := by decide +kernel
theorem dX6_takesSuit_52 : decode cX6_takesSuit 52 = .ok (.iconst 0, 1) := by decide +kernel
theorem dX6_takesSuit_53 : decode cX6_takesSuit 53 = .ok (.iconst 3, 1) := by decide +kernel
theorem dX6_takesSuit_54 : decode cX6_takesSuit 54 = .ok (.invokestatic 42, 3) := by decide +kernel
theorem dX6_takesSuit_57 : decode cX6_takesSuit 57 = .ok (.invokevirtual 154, 3) := by decide +kernel
theorem dX6_takesSuit_60 : decode cX6_takesSuit 60 = .ok (.aload_n 0, 1) := by decide +kernel
theorem dX6_takesSuit_61 : decode cX6_takesSuit 61 = .ok (.aload_n 0, 1) := by decide +kernel
theorem dX6_takesSuit_62 : decode cX6_takesSuit 62 = .ok (.invokevirtual 151, 3) := by decide +kernel
theorem dX6_takesSuit_65 : decode cX6_takesSuit 65 = .ok (.bipush 58, 2) := by decide +kernel
theorem dX6_takesSuit_67 : decode cX6_takesSuit 67 = .ok (.if_icmp .ne 7, 3) := by decide +kernel
theorem dX6_takesSuit_70 : decode cX6_takesSuit 70 = .ok (.iconst 1, 1) := by decide +kernel
theorem dX6_takesSuit_71 : decode cX6_takesSuit 71 = .ok (.goto 4, 3) := by decide +kernel
theorem dX6_takesSuit_74 : decode cX6_takesSuit 74 = .ok (.iconst 0, 1) := by decide +kernel
theorem dX6_takesSuit_75 : decode cX6_takesSuit 75 = .ok (.invokevirtual 154, 3) := by decide +kernel
theorem dX6_takesSuit_78 : decode cX6_takesSuit 78 = .ok (.aload_n 0, 1) := by decide +kernel
theorem dX6_takesSuit_79 : decode cX6_takesSuit 79 = .ok (.aload_n 0, 1) := by decide +kernel
theorem dX6_takesSuit_80 : decode cX6_takesSuit 80 = .ok (.invokevirtual 151, 3) := by decide +kernel
theorem dX6_takesSuit_83 : decode cX6_takesSuit 83 = .ok (.bipush 48, 2) := by decide +kernel
theorem dX6_takesSuit_85 : decode cX6_takesSuit 85 = .ok (.isub, 1) := by decide +kernel
theorem dX6_takesSuit_86 : decode cX6_takesSuit 86 = .ok (.putfield 164, 3) := by decide +kernel
theorem dX6_takesSuit_89 : decode cX6_takesSuit 89 = .ok (.aload_n 0, 1) := by decide +kernel
theorem dX6_takesSuit_90 : decode cX6_takesSuit 90 = .ok (.aload_n 0, 1) := by decide +kernel
theorem dX6_takesSuit_91 : decode cX6_takesSuit 91 = .ok (.getfield 164, 3) := by decide +kernel
theorem dX6_takesSuit_94 : decode cX6_takesSuit 94 = .ok (.iconst 0, 1) := by decide +kernel
theorem dX6_takesSuit_95 : decode cX6_takesSuit 95 = .ok (.bipush 9, 2) := by decide +kernel
theorem dX6_takesSuit_97 : decode cX6_takesSuit 97 = .ok (.invokestatic 42, 3) := by decide +kernel
theorem dX6_takesSuit_100 : decode cX6_takesSuit 100 = .ok (.invokevirtual 154, 3) := by decide +kernel
theorem dX6_takesSuit_103 : decode cX6_takesSuit 103 = .ok (.aload_n 0, 1) := by decide +kernel
theorem dX6_takesSuit_104 : decode cX6_takesSuit 104 = .ok (.getfield 141, 3) := by decide +kernel
theorem dX6_takesSuit_107 : decode cX6_takesSuit 107 = .ok (.ifCond .eq 36, 3) := by decide +kernel
theorem dX6_takesSuit_110 : decode cX6_takesSuit 110 = .ok (.aload_n 0, 1) := by decide +kernel
theorem dX6_takesSuit_111 : decode cX6_takesSuit 111 = .ok (.getfield 164, 3) := by decide +kernel
theorem dX6_takesSuit_114 : decode cX6_takesSuit 114 = .ok (.iconst 1, 1) := by decide +kernel
theorem dX6_takesSuit_115 : decode cX6_takesSuit 115 = .ok (.if_icmp .ne 28, 3) := by decide +kernel
theorem dX6_takesSuit_118 : decode cX6_takesSuit 118 = .ok (.aload_n 0, 1) := by decide +kernel
theorem dX6_takesSuit_119 : decode cX6_takesSuit 119 = .ok (.invokevirtual 151, 3) := by decide +kernel
theorem dX6_takesSuit_122 : decode cX6_takesSuit 122 = .ok (.bipush 48, 2) := by decide +kernel
theorem dX6_takesSuit_124 : decode cX6_takesSuit 124 = .ok (.if_icmp .ne 19, 3) := by decide +kernel
theorem dX6_takesSuit_127 : decode cX6_takesSuit 127 = .ok (.aload_n 0, 1) := by decide +kernel
theorem dX6_takesSuit_128 : decode cX6_takesSuit 128 = .ok (.dup, 1) := by decide +kernel
theorem dX6_takesSuit_129 : decode cX6_takesSuit 129 = .ok (.getfield 138, 3) := by decide +kernel
theorem dX6_takesSuit_132 : decode cX6_takesSuit 132 = .ok (.iconst 1, 1) := by decide +kernel
theorem dX6_takesSuit_133 : decode cX6_takesSuit 133 = .ok (.iadd, 1) := by decide +kernel
theorem dX6_takesSuit_134 : decode cX6_takesSuit 134 = .ok (.putfield 138, 3) := by decide +kernel
theorem dX6_takesSuit_137 : decode cX6_takesSuit 137 = .ok (.aload_n 0, 1) := by decide +kernel
theorem dX6_takesSuit_138 : decode cX6_takesSuit 138 = .ok (.bipush 10, 2) := by decide +kernel
theorem dX6_takesSuit_140 : decode cX6_takesSuit 140 = .ok (.putfield 164, 3) := by decide +kernel
theorem dX6_takesSuit_143 : decode cX6_takesSuit 143 = .ok (.return_, 1) := by decide +kernel
theorem dX6_areSuits_0 : decode cX6_areSuits 0 = .ok (.aload_n 0, 1) := by decide +kernel
theorem dX6_areSuits_1 : decode cX6_areSuits 1 = .ok (.iconst 0, 1) := by decide +kernel
theorem dX6_areSuits_2 : decode cX6_areSuits 2 = .ok (.putfield 138, 3) := by decide +kernel
theorem dX6_areSuits_5 : decode cX6_areSuits 5 = .ok (.aload_n 0, 1) := by decide +kernel
theorem dX6_areSuits_6 : decode cX6_areSuits 6 = .ok (.iconst 1, 1) := by decide +kernel
theorem dX6_areSuits_7 : decode cX6_areSuits 7 = .ok (.putfield 141, 3) := by decide +kernel
theorem dX6_areSuits_10 : decode cX6_areSuits 10 = .ok (.aload_n 0, 1) := by decide +kernel
theorem dX6_areSuits_11 : decode cX6_areSuits 11 = .ok (.invokevirtual 167, 3) := by decide +kernel
theorem dX6_areSuits_14 : decode cX6_areSuits 14 = .ok (.aload_n 0, 1) := by decide +kernel
theorem dX6_areSuits_15 : decode cX6_areSuits 15 = .ok (.getfield 141, 3) := by decide +kernel
theorem dX6_areSuits_18 : decode cX6_areSuits 18 = .ok (.ifCond .eq 46, 3) := by decide +kernel
theorem dX6_areSuits_21 : decode cX6_areSuits 21 = .ok (.aload_n 0, 1) := by decide +kernel
theorem dX6_areSuits_22 : decode cX6_areSuits 22 = .ok (.getfield 138, 3) := by decide +kernel
theorem dX6_areSuits_25 : decode cX6_areSuits 25 = .ok (.aload_n 0, 1) := by decide +kernel
theorem dX6_areSuits_26 : decode cX6_areSuits 26 = .ok (.getfield 135, 3) := by decide +kernel
theorem dX6_areSuits_29 : decode cX6_areSuits 29 = .ok (.if_icmp .ge 35, 3) := by decide +kernel
theorem dX6_areSuits_32 : decode cX6_areSuits 32 = .ok (.aload_n 0, 1) := by decide +kernel
theorem dX6_areSuits_33 : decode cX6_areSuits 33 = .ok (.aload_n 0, 1) := by decide +kernel
theorem dX6_areSuits_34 : decode cX6_areSuits 34 = .ok (.invokevirtual 151, 3) := by decide +kernel
theorem dX6_areSuits_37 : decode cX6_areSuits 37 = .ok (.bipush 59, 2) := by decide +kernel
theorem dX6_areSuits_39 : decode cX6_areSuits 39 = .ok (.if_icmp .ne 7, 3) := by decide +kernel
theorem dX6_areSuits_42 : decode cX6_areSuits 42 = .ok (.iconst 1, 1) := by decide +kernel
theorem dX6_areSuits_43 : decode cX6_areSuits 43 = .ok (.goto 4, 3) := by decide +kernel
theorem dX6_areSuits_46 : decode cX6_areSuits 46 = .ok (.iconst 0, 1) := by decide +kernel
theorem dX6_areSuits_47 : decode cX6_areSuits 47 = .ok (.invokevirtual 154, 3) := by decide +kernel
theorem dX6_areSuits_50 : decode cX6_areSuits 50 = .ok (.aload_n 0, 1) := by decide +kernel
theorem dX6_areSuits_51 : decode cX6_areSuits 51 = .ok (.getfield 141, 3) := by decide +kernel
theorem dX6_areSuits_54 : decode cX6_areSuits 54 = .ok (.ifCond .eq (-40), 3) := by decide +kernel
theorem dX6_areSuits_57 : decode cX6_areSuits 57 = .ok (.aload_n 0, 1) := by decide +kernel
theorem dX6_areSuits_58 : decode cX6_areSuits 58 = .ok (.invokevirtual 167, 3) := by decide +kernel
theorem dX6_areSuits_61 : decode cX6_areSuits 61 = .ok (.goto (-47), 3) := by decide +kernel
theorem dX6_areSuits_64 : decode cX6_areSuits 64 = .ok (.aload_n 0, 1) := by decide +kernel
theorem dX6_areSuits_65 : decode cX6_areSuits 65 = .ok (.getfield 141, 3) := by decide +kernel
theorem dX6_areSuits_68 : decode cX6_areSuits 68 = .ok (.ireturn, 1) := by decide +kernel
theorem dX6_fault_0 : decode cX6_fault 0 = .ok (.iload_n 1, 1) := by decide +kernel
theorem dX6_fault_1 : decode cX6_fault 1 = .ok (.iconst 0, 1) := by decide +kernel
theorem dX6_fault_2 : decode cX6_fault 2 = .ok (.iconst 1, 1) := by decide +kernel
theorem dX6_fault_3 : decode cX6_fault 3 = .ok (.invokestatic 42, 3) := by decide +kernel
theorem dX6_fault_6 : decode cX6_fault 6 = .ok (.ifCond .ne 5, 3) := by decide +kernel
theorem dX6_fault_9 : decode cX6_fault 9 = .ok (.iconst (-1), 1) := by decide +kernel
theorem dX6_fault_10 : decode cX6_fault 10 = .ok (.ireturn, 1) := by decide +kernel
theorem dX6_fault_11 : decode cX6_fault 11 = .ok (.iload_n 1, 1) := by decide +kernel
theorem dX6_fault_12 : decode cX6_fault 12 = .ok (.ifCond .ne 13, 3) := by decide +kernel
theorem dX6_fault_15 : decode cX6_fault 15 = .ok (.aload_n 0, 1) := by decide +kernel
theorem dX6_fault_16 : decode cX6_fault 16 = .ok (.invokevirtual 170, 3) := by decide +kernel
theorem dX6_fault_19 : decode cX6_fault 19 = .ok (.ifCond .eq 18, 3) := by decide +kernel
theorem dX6_fault_22 : decode cX6_fault 22 = .ok (.goto 10, 3) := by decide +kernel
theorem dX6_fault_25 : decode cX6_fault 25 = .ok (.aload_n 0, 1) := by decide +kernel
theorem dX6_fault_26 : decode cX6_fault 26 = .ok (.invokevirtual 174, 3) := by decide +kernel
theorem dX6_fault_29 : decode cX6_fault 29 = .ok (.ifCond .eq 8, 3) := by decide +kernel
theorem dX6_fault_32 : decode cX6_fault 32 = .ok (.bipush (-4), 2) := by decide +kernel
theorem dX6_fault_34 : decode cX6_fault 34 = .ok (.goto 7, 3) := by decide +kernel
theorem dX6_fault_37 : decode cX6_fault 37 = .ok (.aload_n 0, 1) := by decide +kernel
theorem dX6_fault_38 : decode cX6_fault 38 = .ok (.getfield 138, 3) := by decide +kernel
theorem dX6_fault_41 : decode cX6_fault 41 = .ok (.ireturn, 1) := by decide +kernel
theorem dX6_laysEdition_0 : decode cX6_laysEdition 0 = .ok (.aload_n 0, 1) := by decide +kernel
theorem dX6_laysEdition_1 : decode cX6_laysEdition 1 = .ok (.getfield 7, 3) := by decide +kernel
theorem dX6_laysEdition_4 : decode cX6_laysEdition 4 = .ok (.iconst 3, 1) := by decide +kernel
theorem dX6_laysEdition_5 : decode cX6_laysEdition 5 = .ok (.iaload, 1) := by decide +kernel
theorem dX6_laysEdition_6 : decode cX6_laysEdition 6 = .ok (.istore_n 1, 1) := by decide +kernel
theorem dX6_laysEdition_7 : decode cX6_laysEdition 7 = .ok (.bipush 73, 2) := by decide +kernel
theorem dX6_laysEdition_9 : decode cX6_laysEdition 9 = .ok (.bipush 16, 2) := by decide +kernel
theorem dX6_laysEdition_11 : decode cX6_laysEdition 11 = .ok (.iload_n 1, 1) := by decide +kernel
theorem dX6_laysEdition_12 : decode cX6_laysEdition 12 = .ok (.imul, 1) := by decide +kernel
theorem dX6_laysEdition_13 : decode cX6_laysEdition 13 = .ok (.iadd, 1) := by decide +kernel
theorem dX6_laysEdition_14 : decode cX6_laysEdition 14 = .ok (.istore_n 2, 1) := by decide +kernel
theorem dX6_laysEdition_15 : decode cX6_laysEdition 15 = .ok (.iconst 0, 1) := by decide +kernel
theorem dX6_laysEdition_16 : decode cX6_laysEdition 16 = .ok (.istore_n 3, 1) := by decide +kernel
theorem dX6_laysEdition_17 : decode cX6_laysEdition 17 = .ok (.iconst 0, 1) := by decide +kernel
theorem dX6_laysEdition_18 : decode cX6_laysEdition 18 = .ok (.istore 4, 2) := by decide +kernel
theorem dX6_laysEdition_20 : decode cX6_laysEdition 20 = .ok (.iload 4, 2) := by decide +kernel
theorem dX6_laysEdition_22 : decode cX6_laysEdition 22 = .ok (.bipush 16, 2) := by decide +kernel
theorem dX6_laysEdition_24 : decode cX6_laysEdition 24 = .ok (.if_icmp .ge 19, 3) := by decide +kernel
theorem dX6_laysEdition_27 : decode cX6_laysEdition 27 = .ok (.aload_n 0, 1) := by decide +kernel
theorem dX6_laysEdition_28 : decode cX6_laysEdition 28 = .ok (.getfield 7, 3) := by decide +kernel
theorem dX6_laysEdition_31 : decode cX6_laysEdition 31 = .ok (.iload_n 2, 1) := by decide +kernel
theorem dX6_laysEdition_32 : decode cX6_laysEdition 32 = .ok (.iload 4, 2) := by decide +kernel
theorem dX6_laysEdition_34 : decode cX6_laysEdition 34 = .ok (.iadd, 1) := by decide +kernel
theorem dX6_laysEdition_35 : decode cX6_laysEdition 35 = .ok (.iconst 0, 1) := by decide +kernel
theorem dX6_laysEdition_36 : decode cX6_laysEdition 36 = .ok (.iastore, 1) := by decide +kernel
theorem dX6_laysEdition_37 : decode cX6_laysEdition 37 = .ok (.iinc 4 1, 3) := by decide +kernel
theorem dX6_laysEdition_40 : decode cX6_laysEdition 40 = .ok (.goto (-20), 3) := by decide +kernel
theorem dX6_laysEdition_43 : decode cX6_laysEdition 43 = .ok (.iconst 0, 1) := by decide +kernel
theorem dX6_laysEdition_44 : decode cX6_laysEdition 44 = .ok (.istore 4, 2) := by decide +kernel
theorem dX6_laysEdition_46 : decode cX6_laysEdition 46 = .ok (.iload 4, 2) := by decide +kernel
theorem dX6_laysEdition_48 : decode cX6_laysEdition 48 = .ok (.aload_n 0, 1) := by decide +kernel
theorem dX6_laysEdition_49 : decode cX6_laysEdition 49 = .ok (.getfield 135, 3) := by decide +kernel
theorem dX6_laysEdition_52 : decode cX6_laysEdition 52 = .ok (.if_icmp .ge 42, 3) := by decide +kernel
theorem dX6_laysEdition_55 : decode cX6_laysEdition 55 = .ok (.aload_n 0, 1) := by decide +kernel
theorem dX6_laysEdition_56 : decode cX6_laysEdition 56 = .ok (.getfield 19, 3) := by decide +kernel
theorem dX6_laysEdition_59 : decode cX6_laysEdition 59 = .ok (.iload 4, 2) := by decide +kernel
theorem dX6_laysEdition_61 : decode cX6_laysEdition 61 = .ok (.iaload, 1) := by decide +kernel
theorem dX6_laysEdition_62 : decode cX6_laysEdition 62 = .ok (.bipush 44, 2) := by decide +kernel
theorem dX6_laysEdition_64 : decode cX6_laysEdition 64 = .ok (.if_icmp .eq 24, 3) := by decide +kernel
theorem dX6_laysEdition_67 : decode cX6_laysEdition 67 = .ok (.aload_n 0, 1) := by decide +kernel
theorem dX6_laysEdition_68 : decode cX6_laysEdition 68 = .ok (.iload_n 1, 1) := by decide +kernel
theorem dX6_laysEdition_69 : decode cX6_laysEdition 69 = .ok (.iconst 4, 1) := by decide +kernel
theorem dX6_laysEdition_70 : decode cX6_laysEdition 70 = .ok (.iload_n 3, 1) := by decide +kernel
theorem dX6_laysEdition_71 : decode cX6_laysEdition 71 = .ok (.iadd, 1) := by decide +kernel
theorem dX6_laysEdition_72 : decode cX6_laysEdition 72 = .ok (.aload_n 0, 1) := by decide +kernel
theorem dX6_laysEdition_73 : decode cX6_laysEdition 73 = .ok (.getfield 19, 3) := by decide +kernel
theorem dX6_laysEdition_76 : decode cX6_laysEdition 76 = .ok (.iload 4, 2) := by decide +kernel
theorem dX6_laysEdition_78 : decode cX6_laysEdition 78 = .ok (.iaload, 1) := by decide +kernel
theorem dX6_laysEdition_79 : decode cX6_laysEdition 79 = .ok (.bipush 97, 2) := by decide +kernel
theorem dX6_laysEdition_81 : decode cX6_laysEdition 81 = .ok (.isub, 1) := by decide +kernel
theorem dX6_laysEdition_82 : decode cX6_laysEdition 82 = .ok (.invokevirtual 105, 3) := by decide +kernel
theorem dX6_laysEdition_85 : decode cX6_laysEdition 85 = .ok (.iinc 3 1, 3) := by decide +kernel
theorem dX6_laysEdition_88 : decode cX6_laysEdition 88 = .ok (.iinc 4 1, 3) := by decide +kernel
theorem dX6_laysEdition_91 : decode cX6_laysEdition 91 = .ok (.goto (-45), 3) := by decide +kernel
theorem dX6_laysEdition_94 : decode cX6_laysEdition 94 = .ok (.aload_n 0, 1) := by decide +kernel
theorem dX6_laysEdition_95 : decode cX6_laysEdition 95 = .ok (.iload_n 1, 1) := by decide +kernel
theorem dX6_laysEdition_96 : decode cX6_laysEdition 96 = .ok (.iconst 0, 1) := by decide +kernel
theorem dX6_laysEdition_97 : decode cX6_laysEdition 97 = .ok (.aload_n 0, 1) := by decide +kernel
theorem dX6_laysEdition_98 : decode cX6_laysEdition 98 = .ok (.getfield 145, 3) := by decide +kernel
theorem dX6_laysEdition_101 : decode cX6_laysEdition 101 = .ok (.invokevirtual 105, 3) := by decide +kernel
theorem dX6_laysEdition_104 : decode cX6_laysEdition 104 = .ok (.aload_n 0, 1) := by decide +kernel
theorem dX6_laysEdition_105 : decode cX6_laysEdition 105 = .ok (.iload_n 1, 1) := by decide +kernel
theorem dX6_laysEdition_106 : decode cX6_laysEdition 106 = .ok (.iconst 1, 1) := by decide +kernel
theorem dX6_laysEdition_107 : decode cX6_laysEdition 107 = .ok (.aload_n 0, 1) := by decide +kernel
theorem dX6_laysEdition_108 : decode cX6_laysEdition 108 = .ok (.getfield 148, 3) := by decide +kernel
theorem dX6_laysEdition_111 : decode cX6_laysEdition 111 = .ok (.invokevirtual 105, 3) := by decide +kernel
theorem dX6_laysEdition_114 : decode cX6_laysEdition 114 = .ok (.iload_n 1, 1) := by decide +kernel
theorem dX6_laysEdition_115 : decode cX6_laysEdition 115 = .ok (.ireturn, 1) := by decide +kernel
theorem dX6_isPrinted_0 : decode cX6_isPrinted 0 = .ok (.iconst 0, 1) := by decide +kernel
theorem dX6_isPrinted_1 : decode cX6_isPrinted 1 = .ok (.istore_n 1, 1) := by decide +kernel
theorem dX6_isPrinted_2 : decode cX6_isPrinted 2 = .ok (.iconst 0, 1) := by decide +kernel
theorem dX6_isPrinted_3 : decode cX6_isPrinted 3 = .ok (.istore_n 2, 1) := by decide +kernel
theorem dX6_isPrinted_4 : decode cX6_isPrinted 4 = .ok (.iload_n 2, 1) := by decide +kernel
theorem dX6_isPrinted_5 : decode cX6_isPrinted 5 = .ok (.aload_n 0, 1) := by decide +kernel
theorem dX6_isPrinted_6 : decode cX6_isPrinted 6 = .ok (.getfield 7, 3) := by decide +kernel
theorem dX6_isPrinted_9 : decode cX6_isPrinted 9 = .ok (.iconst 3, 1) := by decide +kernel
theorem dX6_isPrinted_10 : decode cX6_isPrinted 10 = .ok (.iaload, 1) := by decide +kernel
theorem dX6_isPrinted_11 : decode cX6_isPrinted 11 = .ok (.if_icmp .ge 140, 3) := by decide +kernel
theorem dX6_isPrinted_14 : decode cX6_isPrinted 14 = .ok (.aload_n 0, 1) := by decide +kernel
theorem dX6_isPrinted_15 : decode cX6_isPrinted 15 = .ok (.iload_n 2, 1) := by decide +kernel
theorem dX6_isPrinted_16 : decode cX6_isPrinted 16 = .ok (.iconst 0, 1) := by decide +kernel
theorem dX6_isPrinted_17 : decode cX6_isPrinted 17 = .ok (.invokevirtual 60, 3) := by decide +kernel
theorem dX6_isPrinted_20 : decode cX6_isPrinted 20 = .ok (.aload_n 0, 1) := by decide +kernel
theorem dX6_isPrinted_21 : decode cX6_isPrinted 21 = .ok (.getfield 145, 3) := by decide +kernel
theorem dX6_isPrinted_24 : decode cX6_isPrinted 24 = .ok (.if_icmp .ne 20, 3) := by decide +kernel
theorem dX6_isPrinted_27 : decode cX6_isPrinted 27 = .ok (.aload_n 0, 1) := by decide +kernel
theorem dX6_isPrinted_28 : decode cX6_isPrinted 28 = .ok (.iload_n 2, 1) := by decide +kernel
theorem dX6_isPrinted_29 : decode cX6_isPrinted 29 = .ok (.iconst 1, 1) := by decide +kernel
theorem dX6_isPrinted_30 : decode cX6_isPrinted 30 = .ok (.invokevirtual 60, 3) := by decide +kernel
theorem dX6_isPrinted_33 : decode cX6_isPrinted 33 = .ok (.aload_n 0, 1) := by decide +kernel
theorem dX6_isPrinted_34 : decode cX6_isPrinted 34 = .ok (.getfield 148, 3) := by decide +kernel
theorem dX6_isPrinted_37 : decode cX6_isPrinted 37 = .ok (.if_icmp .ne 7, 3) := by decide +kernel
theorem dX6_isPrinted_40 : decode cX6_isPrinted 40 = .ok (.iconst 1, 1) := by decide +kernel
theorem dX6_isPrinted_41 : decode cX6_isPrinted 41 = .ok (.goto 4, 3) := by decide +kernel
theorem dX6_isPrinted_44 : decode cX6_isPrinted 44 = .ok (.iconst 0, 1) := by decide +kernel
theorem dX6_isPrinted_45 : decode cX6_isPrinted 45 = .ok (.istore_n 3, 1) := by decide +kernel
theorem dX6_isPrinted_46 : decode cX6_isPrinted 46 = .ok (.iconst 0, 1) := by decide +kernel
theorem dX6_isPrinted_47 : decode cX6_isPrinted 47 = .ok (.istore 4, 2) := by decide +kernel
theorem dX6_isPrinted_49 : decode cX6_isPrinted 49 = .ok (.iconst 0, 1) := by decide +kernel
theorem dX6_isPrinted_50 : decode cX6_isPrinted 50 = .ok (.istore 5, 2) := by decide +kernel
theorem dX6_isPrinted_52 : decode cX6_isPrinted 52 = .ok (.iload 5, 2) := by decide +kernel
theorem dX6_isPrinted_54 : decode cX6_isPrinted 54 = .ok (.aload_n 0, 1) := by decide +kernel
theorem dX6_isPrinted_55 : decode cX6_isPrinted 55 = .ok (.getfield 135, 3) := by decide +kernel
theorem dX6_isPrinted_58 : decode cX6_isPrinted 58 = .ok (.if_icmp .ge 73, 3) := by decide +kernel
theorem dX6_isPrinted_61 : decode cX6_isPrinted 61 = .ok (.iload_n 3, 1) := by decide +kernel
theorem dX6_isPrinted_62 : decode cX6_isPrinted 62 = .ok (.ifCond .eq 39, 3) := by decide +kernel
theorem dX6_isPrinted_65 : decode cX6_isPrinted 65 = .ok (.aload_n 0, 1) := by decide +kernel
theorem dX6_isPrinted_66 : decode cX6_isPrinted 66 = .ok (.getfield 19, 3) := by decide +kernel
theorem dX6_isPrinted_69 : decode cX6_isPrinted 69 = .ok (.iload 5, 2) := by decide +kernel
theorem dX6_isPrinted_71 : decode cX6_isPrinted 71 = .ok (.iaload, 1) := by decide +kernel
theorem dX6_isPrinted_72 : decode cX6_isPrinted 72 = .ok (.bipush 44, 2) := by decide +kernel
theorem dX6_isPrinted_74 : decode cX6_isPrinted 74 = .ok (.if_icmp .eq 23, 3) := by decide +kernel
theorem dX6_isPrinted_77 : decode cX6_isPrinted 77 = .ok (.aload_n 0, 1) := by decide +kernel
theorem dX6_isPrinted_78 : decode cX6_isPrinted 78 = .ok (.iload_n 2, 1) := by decide +kernel
theorem dX6_isPrinted_79 : decode cX6_isPrinted 79 = .ok (.iload 4, 2) := by decide +kernel
theorem dX6_isPrinted_81 : decode cX6_isPrinted 81 = .ok (.invokevirtual 63, 3) := by decide +kernel
theorem dX6_isPrinted_84 : decode cX6_isPrinted 84 = .ok (.aload_n 0, 1) := by decide +kernel
theorem dX6_isPrinted_85 : decode cX6_isPrinted 85 = .ok (.getfield 19, 3) := by decide +kernel
theorem dX6_isPrinted_88 : decode cX6_isPrinted 88 = .ok (.iload 5, 2) := by decide +kernel
theorem dX6_isPrinted_90 : decode cX6_isPrinted 90 = .ok (.iaload, 1) := by decide +kernel
theorem dX6_isPrinted_91 : decode cX6_isPrinted 91 = .ok (.bipush 97, 2) := by decide +kernel
theorem dX6_isPrinted_93 : decode cX6_isPrinted 93 = .ok (.isub, 1) := by decide +kernel
theorem dX6_isPrinted_94 : decode cX6_isPrinted 94 = .ok (.if_icmp .ne 7, 3) := by decide +kernel
theorem dX6_isPrinted_97 : decode cX6_isPrinted 97 = .ok (.iconst 1, 1) := by decide +kernel
theorem dX6_isPrinted_98 : decode cX6_isPrinted 98 = .ok (.goto 4, 3) := by decide +kernel
theorem dX6_isPrinted_101 : decode cX6_isPrinted 101 = .ok (.iconst 0, 1) := by decide +kernel
theorem dX6_isPrinted_102 : decode cX6_isPrinted 102 = .ok (.istore_n 3, 1) := by decide +kernel
theorem dX6_isPrinted_103 : decode cX6_isPrinted 103 = .ok (.iload 4, 2) := by decide +kernel
theorem dX6_isPrinted_105 : decode cX6_isPrinted 105 = .ok (.aload_n 0, 1) := by decide +kernel
theorem dX6_isPrinted_106 : decode cX6_isPrinted 106 = .ok (.getfield 19, 3) := by decide +kernel
theorem dX6_isPrinted_109 : decode cX6_isPrinted 109 = .ok (.iload 5, 2) := by decide +kernel
theorem dX6_isPrinted_111 : decode cX6_isPrinted 111 = .ok (.iaload, 1) := by decide +kernel
theorem dX6_isPrinted_112 : decode cX6_isPrinted 112 = .ok (.bipush 44, 2) := by decide +kernel
theorem dX6_isPrinted_114 : decode cX6_isPrinted 114 = .ok (.if_icmp .ne 7, 3) := by decide +kernel
theorem dX6_isPrinted_117 : decode cX6_isPrinted 117 = .ok (.iconst 0, 1) := by decide +kernel
theorem dX6_isPrinted_118 : decode cX6_isPrinted 118 = .ok (.goto 4, 3) := by decide +kernel
theorem dX6_isPrinted_121 : decode cX6_isPrinted 121 = .ok (.iconst 1, 1) := by decide +kernel
theorem dX6_isPrinted_122 : decode cX6_isPrinted 122 = .ok (.iadd, 1) := by decide +kernel
theorem dX6_isPrinted_123 : decode cX6_isPrinted 123 = .ok (.istore 4, 2) := by decide +kernel
theorem dX6_isPrinted_125 : decode cX6_isPrinted 125 = .ok (.iinc 5 1, 3) := by decide +kernel
theorem dX6_isPrinted_128 : decode cX6_isPrinted 128 = .ok (.goto (-76), 3) := by decide +kernel
theorem dX6_isPrinted_131 : decode cX6_isPrinted 131 = .ok (.iload_n 1, 1) := by decide +kernel
theorem dX6_isPrinted_132 : decode cX6_isPrinted 132 = .ok (.ifCond .ne 7, 3) := by decide +kernel
theorem dX6_isPrinted_135 : decode cX6_isPrinted 135 = .ok (.iload_n 3, 1) := by decide +kernel
theorem dX6_isPrinted_136 : decode cX6_isPrinted 136 = .ok (.ifCond .eq 7, 3) := by decide +kernel
theorem dX6_isPrinted_139 : decode cX6_isPrinted 139 = .ok (.iconst 1, 1) := by decide +kernel
theorem dX6_isPrinted_140 : decode cX6_isPrinted 140 = .ok (.goto 4, 3) := by decide +kernel
theorem dX6_isPrinted_143 : decode cX6_isPrinted 143 = .ok (.iconst 0, 1) := by decide +kernel
theorem dX6_isPrinted_144 : decode cX6_isPrinted 144 = .ok (.istore_n 1, 1) := by decide +kernel
theorem dX6_isPrinted_145 : decode cX6_isPrinted 145 = .ok (.iinc 2 1, 3) := by decide +kernel
theorem dX6_isPrinted_148 : decode cX6_isPrinted 148 = .ok (.goto (-144), 3) := by decide +kernel
theorem dX6_isPrinted_151 : decode cX6_isPrinted 151 = .ok (.iload_n 1, 1) := by decide +kernel
theorem dX6_isPrinted_152 : decode cX6_isPrinted 152 = .ok (.ireturn, 1) := by decide +kernel
theorem dX6_print_0 : decode cX6_print 0 = .ok (.aload_n 0, 1) := by decide +kernel
theorem dX6_print_1 : decode cX6_print 1 = .ok (.invokevirtual 170, 3) := by decide +kernel
theorem dX6_print_4 : decode cX6_print 4 = .ok (.ifCond .eq 10, 3) := by decide +kernel
theorem dX6_print_7 : decode cX6_print 7 = .ok (.aload_n 0, 1) := by decide +kernel
theorem dX6_print_8 : decode cX6_print 8 = .ok (.invokevirtual 177, 3) := by decide +kernel
theorem dX6_print_11 : decode cX6_print 11 = .ok (.ifCond .eq 6, 3) := by decide +kernel
theorem dX6_print_14 : decode cX6_print 14 = .ok (.bipush (-2), 2) := by decide +kernel
theorem dX6_print_16 : decode cX6_print 16 = .ok (.ireturn, 1) := by decide +kernel
theorem dX6_print_17 : decode cX6_print 17 = .ok (.aload_n 0, 1) := by decide +kernel
theorem dX6_print_18 : decode cX6_print 18 = .ok (.getfield 7, 3) := by decide +kernel
theorem dX6_print_21 : decode cX6_print 21 = .ok (.iconst 3, 1) := by decide +kernel
theorem dX6_print_22 : decode cX6_print 22 = .ok (.iaload, 1) := by decide +kernel
theorem dX6_print_23 : decode cX6_print 23 = .ok (.iconst 4, 1) := by decide +kernel
theorem dX6_print_24 : decode cX6_print 24 = .ok (.if_icmp .ne 6, 3) := by decide +kernel
theorem dX6_print_27 : decode cX6_print 27 = .ok (.bipush (-3), 2) := by decide +kernel
theorem dX6_print_29 : decode cX6_print 29 = .ok (.ireturn, 1) := by decide +kernel
