theorem dX4_hasEditionLike_12 : decode cX4_hasEditionLike 12 = .ok (.invokevirtual 47, 3) := by decide +kernel
theorem dX4_hasEditionLike_15 : decode cX4_hasEditionLike 15 = .ok (.astore 4, 2) := by decide +kernel
theorem dX4_hasEditionLike_17 : decode cX4_hasEditionLike 17 = .ok (.aload 4, 2) := by decide +kernel
theorem dX4_hasEditionLike_19 : decode cX4_hasEditionLike 19 = .ok (.ifnull 23, 3) := by decide +kernel
theorem dX4_hasEditionLike_22 : decode cX4_hasEditionLike 22 = .ok (.aload 4, 2) := by decide +kernel
theorem dX4_hasEditionLike_24 : decode cX4_hasEditionLike 24 = .ok (.getfield 75, 3) := by decide +kernel
theorem dX4_hasEditionLike_27 : decode cX4_hasEditionLike 27 = .ok (.iload_n 2, 1) := by decide +kernel
theorem dX4_hasEditionLike_28 : decode cX4_hasEditionLike 28 = .ok (.if_icmp .ne 14, 3) := by decide +kernel
theorem dX4_hasEditionLike_31 : decode cX4_hasEditionLike 31 = .ok (.aload 4, 2) := by decide +kernel
theorem dX4_hasEditionLike_33 : decode cX4_hasEditionLike 33 = .ok (.aload_n 1, 1) := by decide +kernel
theorem dX4_hasEditionLike_34 : decode cX4_hasEditionLike 34 = .ok (.invokevirtual 78, 3) := by decide +kernel
theorem dX4_hasEditionLike_37 : decode cX4_hasEditionLike 37 = .ok (.ifCond .eq 5, 3) := by decide +kernel
theorem dX4_hasEditionLike_40 : decode cX4_hasEditionLike 40 = .ok (.iconst 1, 1) := by decide +kernel
theorem dX4_hasEditionLike_41 : decode cX4_hasEditionLike 41 = .ok (.ireturn, 1) := by decide +kernel
theorem dX4_hasEditionLike_42 : decode cX4_hasEditionLike 42 = .ok (.iinc 3 1, 3) := by decide +kernel
theorem dX4_hasEditionLike_45 : decode cX4_hasEditionLike 45 = .ok (.goto (-43), 3) := by decide +kernel
theorem dX4_hasEditionLike_48 : decode cX4_hasEditionLike 48 = .ok (.iconst 0, 1) := by decide +kernel
theorem dX4_hasEditionLike_49 : decode cX4_hasEditionLike 49 = .ok (.ireturn, 1) := by decide +kernel
theorem dX4_isStayed_0 : decode cX4_isStayed 0 = .ok (.aload_n 0, 1) := by decide +kernel
theorem dX4_isStayed_1 : decode cX4_isStayed 1 = .ok (.getfield 63, 3) := by decide +kernel
theorem dX4_isStayed_4 : decode cX4_isStayed 4 = .ok (.aload_n 1, 1) := by decide +kernel
theorem dX4_isStayed_5 : decode cX4_isStayed 5 = .ok (.getfield 82, 3) := by decide +kernel
theorem dX4_isStayed_8 : decode cX4_isStayed 8 = .ok (.if_icmp .ge 7, 3) := by decide +kernel
theorem dX4_isStayed_11 : decode cX4_isStayed 11 = .ok (.iconst 1, 1) := by decide +kernel
theorem dX4_isStayed_12 : decode cX4_isStayed 12 = .ok (.goto 4, 3) := by decide +kernel
theorem dX4_isStayed_15 : decode cX4_isStayed 15 = .ok (.iconst 0, 1) := by decide +kernel
theorem dX4_isStayed_16 : decode cX4_isStayed 16 = .ok (.ireturn, 1) := by decide +kernel
theorem dX4_stayedEditions_0 : decode cX4_stayedEditions 0 = .ok (.iconst 0, 1) := by decide +kernel
theorem dX4_stayedEditions_1 : decode cX4_stayedEditions 1 = .ok (.istore_n 1, 1) := by decide +kernel
theorem dX4_stayedEditions_2 : decode cX4_stayedEditions 2 = .ok (.iconst 0, 1) := by decide +kernel
theorem dX4_stayedEditions_3 : decode cX4_stayedEditions 3 = .ok (.istore_n 2, 1) := by decide +kernel
theorem dX4_stayedEditions_4 : decode cX4_stayedEditions 4 = .ok (.iload_n 2, 1) := by decide +kernel
theorem dX4_stayedEditions_5 : decode cX4_stayedEditions 5 = .ok (.aload_n 0, 1) := by decide +kernel
theorem dX4_stayedEditions_6 : decode cX4_stayedEditions 6 = .ok (.getfield 40, 3) := by decide +kernel
theorem dX4_stayedEditions_9 : decode cX4_stayedEditions 9 = .ok (.if_icmp .ge 30, 3) := by decide +kernel
theorem dX4_stayedEditions_12 : decode cX4_stayedEditions 12 = .ok (.aload_n 0, 1) := by decide +kernel
theorem dX4_stayedEditions_13 : decode cX4_stayedEditions 13 = .ok (.iload_n 2, 1) := by decide +kernel
theorem dX4_stayedEditions_14 : decode cX4_stayedEditions 14 = .ok (.invokevirtual 47, 3) := by decide +kernel
theorem dX4_stayedEditions_17 : decode cX4_stayedEditions 17 = .ok (.astore_n 3, 1) := by decide +kernel
theorem dX4_stayedEditions_18 : decode cX4_stayedEditions 18 = .ok (.aload_n 3, 1) := by decide +kernel
theorem dX4_stayedEditions_19 : decode cX4_stayedEditions 19 = .ok (.ifnull 14, 3) := by decide +kernel
theorem dX4_stayedEditions_22 : decode cX4_stayedEditions 22 = .ok (.aload_n 0, 1) := by decide +kernel
theorem dX4_stayedEditions_23 : decode cX4_stayedEditions 23 = .ok (.aload_n 3, 1) := by decide +kernel
theorem dX4_stayedEditions_24 : decode cX4_stayedEditions 24 = .ok (.invokevirtual 85, 3) := by decide +kernel
theorem dX4_stayedEditions_27 : decode cX4_stayedEditions 27 = .ok (.ifCond .eq 6, 3) := by decide +kernel
theorem dX4_stayedEditions_30 : decode cX4_stayedEditions 30 = .ok (.iinc 1 1, 3) := by decide +kernel
theorem dX4_stayedEditions_33 : decode cX4_stayedEditions 33 = .ok (.iinc 2 1, 3) := by decide +kernel
theorem dX4_stayedEditions_36 : decode cX4_stayedEditions 36 = .ok (.goto (-32), 3) := by decide +kernel
theorem dX4_stayedEditions_39 : decode cX4_stayedEditions 39 = .ok (.iload_n 1, 1) := by decide +kernel
theorem dX4_stayedEditions_40 : decode cX4_stayedEditions 40 = .ok (.ireturn, 1) := by decide +kernel
theorem dX4_commasOfAll_0 : decode cX4_commasOfAll 0 = .ok (.iconst 0, 1) := by decide +kernel
theorem dX4_commasOfAll_1 : decode cX4_commasOfAll 1 = .ok (.istore_n 1, 1) := by decide +kernel
theorem dX4_commasOfAll_2 : decode cX4_commasOfAll 2 = .ok (.iconst 0, 1) := by decide +kernel
theorem dX4_commasOfAll_3 : decode cX4_commasOfAll 3 = .ok (.istore_n 2, 1) := by decide +kernel
theorem dX4_commasOfAll_4 : decode cX4_commasOfAll 4 = .ok (.iload_n 2, 1) := by decide +kernel
theorem dX4_commasOfAll_5 : decode cX4_commasOfAll 5 = .ok (.aload_n 0, 1) := by decide +kernel
theorem dX4_commasOfAll_6 : decode cX4_commasOfAll 6 = .ok (.getfield 40, 3) := by decide +kernel
theorem dX4_commasOfAll_9 : decode cX4_commasOfAll 9 = .ok (.if_icmp .ge 33, 3) := by decide +kernel
theorem dX4_commasOfAll_12 : decode cX4_commasOfAll 12 = .ok (.aload_n 0, 1) := by decide +kernel
theorem dX4_commasOfAll_13 : decode cX4_commasOfAll 13 = .ok (.iload_n 2, 1) := by decide +kernel
theorem dX4_commasOfAll_14 : decode cX4_commasOfAll 14 = .ok (.invokevirtual 47, 3) := by decide +kernel
theorem dX4_commasOfAll_17 : decode cX4_commasOfAll 17 = .ok (.astore_n 3, 1) := by decide +kernel
theorem dX4_commasOfAll_18 : decode cX4_commasOfAll 18 = .ok (.iload_n 1, 1) := by decide +kernel
theorem dX4_commasOfAll_19 : decode cX4_commasOfAll 19 = .ok (.aload_n 3, 1) := by decide +kernel
theorem dX4_commasOfAll_20 : decode cX4_commasOfAll 20 = .ok (.ifnonnull 7, 3) := by decide +kernel
theorem dX4_commasOfAll_23 : decode cX4_commasOfAll 23 = .ok (.iconst 0, 1) := by decide +kernel
theorem dX4_commasOfAll_24 : decode cX4_commasOfAll 24 = .ok (.goto 10, 3) := by decide +kernel
theorem dX4_commasOfAll_27 : decode cX4_commasOfAll 27 = .ok (.aload_n 3, 1) := by decide +kernel
theorem dX4_commasOfAll_28 : decode cX4_commasOfAll 28 = .ok (.getfield 75, 3) := by decide +kernel
theorem dX4_commasOfAll_31 : decode cX4_commasOfAll 31 = .ok (.invokestatic 88, 3) := by decide +kernel
theorem dX4_commasOfAll_34 : decode cX4_commasOfAll 34 = .ok (.iadd, 1) := by decide +kernel
theorem dX4_commasOfAll_35 : decode cX4_commasOfAll 35 = .ok (.istore_n 1, 1) := by decide +kernel
theorem dX4_commasOfAll_36 : decode cX4_commasOfAll 36 = .ok (.iinc 2 1, 3) := by decide +kernel
theorem dX4_commasOfAll_39 : decode cX4_commasOfAll 39 = .ok (.goto (-35), 3) := by decide +kernel
theorem dX4_commasOfAll_42 : decode cX4_commasOfAll 42 = .ok (.iload_n 1, 1) := by decide +kernel
theorem dX4_commasOfAll_43 : decode cX4_commasOfAll 43 = .ok (.ireturn, 1) := by decide +kernel
theorem dX4_wordsOfAll_0 : decode cX4_wordsOfAll 0 = .ok (.iconst 0, 1) := by decide +kernel
theorem dX4_wordsOfAll_1 : decode cX4_wordsOfAll 1 = .ok (.istore_n 1, 1) := by decide +kernel
theorem dX4_wordsOfAll_2 : decode cX4_wordsOfAll 2 = .ok (.iconst 0, 1) := by decide +kernel
theorem dX4_wordsOfAll_3 : decode cX4_wordsOfAll 3 = .ok (.istore_n 2, 1) := by decide +kernel
theorem dX4_wordsOfAll_4 : decode cX4_wordsOfAll 4 = .ok (.iload_n 2, 1) := by decide +kernel
theorem dX4_wordsOfAll_5 : decode cX4_wordsOfAll 5 = .ok (.aload_n 0, 1) := by decide +kernel
theorem dX4_wordsOfAll_6 : decode cX4_wordsOfAll 6 = .ok (.getfield 40, 3) := by decide +kernel
theorem dX4_wordsOfAll_9 : decode cX4_wordsOfAll 9 = .ok (.if_icmp .ge 30, 3) := by decide +kernel
theorem dX4_wordsOfAll_12 : decode cX4_wordsOfAll 12 = .ok (.aload_n 0, 1) := by decide +kernel
theorem dX4_wordsOfAll_13 : decode cX4_wordsOfAll 13 = .ok (.iload_n 2, 1) := by decide +kernel
theorem dX4_wordsOfAll_14 : decode cX4_wordsOfAll 14 = .ok (.invokevirtual 47, 3) := by decide +kernel
theorem dX4_wordsOfAll_17 : decode cX4_wordsOfAll 17 = .ok (.astore_n 3, 1) := by decide +kernel
theorem dX4_wordsOfAll_18 : decode cX4_wordsOfAll 18 = .ok (.iload_n 1, 1) := by decide +kernel
theorem dX4_wordsOfAll_19 : decode cX4_wordsOfAll 19 = .ok (.aload_n 3, 1) := by decide +kernel
theorem dX4_wordsOfAll_20 : decode cX4_wordsOfAll 20 = .ok (.ifnonnull 7, 3) := by decide +kernel
theorem dX4_wordsOfAll_23 : decode cX4_wordsOfAll 23 = .ok (.iconst 0, 1) := by decide +kernel
theorem dX4_wordsOfAll_24 : decode cX4_wordsOfAll 24 = .ok (.goto 7, 3) := by decide +kernel
theorem dX4_wordsOfAll_27 : decode cX4_wordsOfAll 27 = .ok (.aload_n 3, 1) := by decide +kernel
theorem dX4_wordsOfAll_28 : decode cX4_wordsOfAll 28 = .ok (.getfield 94, 3) := by decide +kernel
theorem dX4_wordsOfAll_31 : decode cX4_wordsOfAll 31 = .ok (.iadd, 1) := by decide +kernel
theorem dX4_wordsOfAll_32 : decode cX4_wordsOfAll 32 = .ok (.istore_n 1, 1) := by decide +kernel
theorem dX4_wordsOfAll_33 : decode cX4_wordsOfAll 33 = .ok (.iinc 2 1, 3) := by decide +kernel
theorem dX4_wordsOfAll_36 : decode cX4_wordsOfAll 36 = .ok (.goto (-32), 3) := by decide +kernel
theorem dX4_wordsOfAll_39 : decode cX4_wordsOfAll 39 = .ok (.iload_n 1, 1) := by decide +kernel
theorem dX4_wordsOfAll_40 : decode cX4_wordsOfAll 40 = .ok (.ireturn, 1) := by decide +kernel
theorem dX4_addRuling_0 : decode cX4_addRuling 0 = .ok (.aload_n 0, 1) := by decide +kernel
theorem dX4_addRuling_1 : decode cX4_addRuling 1 = .ok (.dup, 1) := by decide +kernel
theorem dX4_addRuling_2 : decode cX4_addRuling 2 = .ok (.getfield 44, 3) := by decide +kernel
theorem dX4_addRuling_5 : decode cX4_addRuling 5 = .ok (.iconst 1, 1) := by decide +kernel
theorem dX4_addRuling_6 : decode cX4_addRuling 6 = .ok (.iadd, 1) := by decide +kernel
theorem dX4_addRuling_7 : decode cX4_addRuling 7 = .ok (.putfield 44, 3) := by decide +kernel
theorem dX4_addRuling_10 : decode cX4_addRuling 10 = .ok (.aload_n 0, 1) := by decide +kernel
theorem dX4_addRuling_11 : decode cX4_addRuling 11 = .ok (.aload_n 0, 1) := by decide +kernel
theorem dX4_addRuling_12 : decode cX4_addRuling 12 = .ok (.getfield 44, 3) := by decide +kernel
theorem dX4_addRuling_15 : decode cX4_addRuling 15 = .ok (.iconst 1, 1) := by decide +kernel
theorem dX4_addRuling_16 : decode cX4_addRuling 16 = .ok (.isub, 1) := by decide +kernel
theorem dX4_addRuling_17 : decode cX4_addRuling 17 = .ok (.invokevirtual 55, 3) := by decide +kernel
theorem dX4_addRuling_20 : decode cX4_addRuling 20 = .ok (.astore 6, 2) := by decide +kernel
theorem dX4_addRuling_22 : decode cX4_addRuling 22 = .ok (.aload 6, 2) := by decide +kernel
theorem dX4_addRuling_24 : decode cX4_addRuling 24 = .ok (.ifnull 41, 3) := by decide +kernel
theorem dX4_addRuling_27 : decode cX4_addRuling 27 = .ok (.aload 6, 2) := by decide +kernel
theorem dX4_addRuling_29 : decode cX4_addRuling 29 = .ok (.iload_n 1, 1) := by decide +kernel
theorem dX4_addRuling_30 : decode cX4_addRuling 30 = .ok (.putfield 97, 3) := by decide +kernel
theorem dX4_addRuling_33 : decode cX4_addRuling 33 = .ok (.aload 6, 2) := by decide +kernel
theorem dX4_addRuling_35 : decode cX4_addRuling 35 = .ok (.iload_n 2, 1) := by decide +kernel
theorem dX4_addRuling_36 : decode cX4_addRuling 36 = .ok (.putfield 100, 3) := by decide +kernel
theorem dX4_addRuling_39 : decode cX4_addRuling 39 = .ok (.aload 6, 2) := by decide +kernel
theorem dX4_addRuling_41 : decode cX4_addRuling 41 = .ok (.iload_n 3, 1) := by decide +kernel
theorem dX4_addRuling_42 : decode cX4_addRuling 42 = .ok (.putfield 103, 3) := by decide +kernel
theorem dX4_addRuling_45 : decode cX4_addRuling 45 = .ok (.aload 6, 2) := by decide +kernel
theorem dX4_addRuling_47 : decode cX4_addRuling 47 = .ok (.iload 4, 2) := by decide +kernel
theorem dX4_addRuling_49 : decode cX4_addRuling 49 = .ok (.putfield 107, 3) := by decide +kernel
theorem dX4_addRuling_52 : decode cX4_addRuling 52 = .ok (.aload 6, 2) := by decide +kernel
theorem dX4_addRuling_54 : decode cX4_addRuling 54 = .ok (.iload 5, 2) := by decide +kernel
theorem dX4_addRuling_56 : decode cX4_addRuling 56 = .ok (.putfield 110, 3) := by decide +kernel
theorem dX4_addRuling_59 : decode cX4_addRuling 59 = .ok (.aload 6, 2) := by decide +kernel
theorem dX4_addRuling_61 : decode cX4_addRuling 61 = .ok (.iconst 0, 1) := by decide +kernel
theorem dX4_addRuling_62 : decode cX4_addRuling 62 = .ok (.putfield 113, 3) := by decide +kernel
theorem dX4_addRuling_65 : decode cX4_addRuling 65 = .ok (.aload_n 0, 1) := by decide +kernel
theorem dX4_addRuling_66 : decode cX4_addRuling 66 = .ok (.invokevirtual 116, 3) := by decide +kernel
theorem dX4_addRuling_69 : decode cX4_addRuling 69 = .ok (.return_, 1) := by decide +kernel
theorem dX4_findForce_0 : decode cX4_findForce 0 = .ok (.iconst 0, 1) := by decide +kernel
theorem dX4_findForce_1 : decode cX4_findForce 1 = .ok (.istore_n 1, 1) := by decide +kernel
theorem dX4_findForce_2 : decode cX4_findForce 2 = .ok (.iload_n 1, 1) := by decide +kernel
theorem dX4_findForce_3 : decode cX4_findForce 3 = .ok (.aload_n 0, 1) := by decide +kernel
theorem dX4_findForce_4 : decode cX4_findForce 4 = .ok (.getfield 44, 3) := by decide +kernel
theorem dX4_findForce_7 : decode cX4_findForce 7 = .ok (.if_icmp .ge 55, 3) := by decide +kernel
theorem dX4_findForce_10 : decode cX4_findForce 10 = .ok (.aload_n 0, 1) := by decide +kernel
theorem dX4_findForce_11 : decode cX4_findForce 11 = .ok (.iload_n 1, 1) := by decide +kernel
theorem dX4_findForce_12 : decode cX4_findForce 12 = .ok (.invokevirtual 55, 3) := by decide +kernel
theorem dX4_findForce_15 : decode cX4_findForce 15 = .ok (.astore_n 2, 1) := by decide +kernel
theorem dX4_findForce_16 : decode cX4_findForce 16 = .ok (.aload_n 2, 1) := by decide +kernel
theorem dX4_findForce_17 : decode cX4_findForce 17 = .ok (.ifnull 39, 3) := by decide +kernel
theorem dX4_findForce_20 : decode cX4_findForce 20 = .ok (.aload_n 0, 1) := by decide +kernel
theorem dX4_findForce_21 : decode cX4_findForce 21 = .ok (.aload_n 2, 1) := by decide +kernel
theorem dX4_findForce_22 : decode cX4_findForce 22 = .ok (.getfield 110, 3) := by decide +kernel
theorem dX4_findForce_25 : decode cX4_findForce 25 = .ok (.invokevirtual 55, 3) := by decide +kernel
theorem dX4_findForce_28 : decode cX4_findForce 28 = .ok (.astore_n 3, 1) := by decide +kernel
theorem dX4_findForce_29 : decode cX4_findForce 29 = .ok (.aload_n 2, 1) := by decide +kernel
theorem dX4_findForce_30 : decode cX4_findForce 30 = .ok (.aload_n 2, 1) := by decide +kernel
theorem dX4_findForce_31 : decode cX4_findForce 31 = .ok (.getfield 113, 3) := by decide +kernel
theorem dX4_findForce_34 : decode cX4_findForce 34 = .ok (.ifCond .ne 18, 3) := by decide +kernel
theorem dX4_findForce_37 : decode cX4_findForce 37 = .ok (.aload_n 3, 1) := by decide +kernel
theorem dX4_findForce_38 : decode cX4_findForce 38 = .ok (.ifnull 10, 3) := by decide +kernel
theorem dX4_findForce_41 : decode cX4_findForce 41 = .ok (.aload_n 3, 1) := by decide +kernel
theorem dX4_findForce_42 : decode cX4_findForce 42 = .ok (.getfield 119, 3) := by decide +kernel
theorem dX4_findForce_45 : decode cX4_findForce 45 = .ok (.ifCond .eq 7, 3) := by decide +kernel
theorem dX4_findForce_48 : decode cX4_findForce 48 = .ok (.iconst 1, 1) := by decide +kernel
theorem dX4_findForce_49 : decode cX4_findForce 49 = .ok (.goto 4, 3) := by decide +kernel
theorem dX4_findForce_52 : decode cX4_findForce 52 = .ok (.iconst 0, 1) := by decide +kernel
theorem dX4_findForce_53 : decode cX4_findForce 53 = .ok (.putfield 119, 3) := by decide +kernel
theorem dX4_findForce_56 : decode cX4_findForce 56 = .ok (.iinc 1 1, 3) := by decide +kernel
theorem dX4_findForce_59 : decode cX4_findForce 59 = .ok (.goto (-57), 3) := by decide +kernel
theorem dX4_findForce_62 : decode cX4_findForce 62 = .ok (.return_, 1) := by decide +kernel
theorem dX4_rulingsInForce_0 : decode cX4_rulingsInForce 0 = .ok (.iconst 0, 1) := by decide +kernel
theorem dX4_rulingsInForce_1 : decode cX4_rulingsInForce 1 = .ok (.istore_n 1, 1) := by decide +kernel
theorem dX4_rulingsInForce_2 : decode cX4_rulingsInForce 2 = .ok (.iconst 0, 1) := by decide +kernel
theorem dX4_rulingsInForce_3 : decode cX4_rulingsInForce 3 = .ok (.istore_n 2, 1) := by decide +kernel
theorem dX4_rulingsInForce_4 : decode cX4_rulingsInForce 4 = .ok (.iload_n 2, 1) := by decide +kernel
theorem dX4_rulingsInForce_5 : decode cX4_rulingsInForce 5 = .ok (.aload_n 0, 1) := by decide +kernel
theorem dX4_rulingsInForce_6 : decode cX4_rulingsInForce 6 = .ok (.getfield 44, 3) := by decide +kernel
theorem dX4_rulingsInForce_9 : decode cX4_rulingsInForce 9 = .ok (.if_icmp .ge 29, 3) := by decide +kernel
theorem dX4_rulingsInForce_12 : decode cX4_rulingsInForce 12 = .ok (.aload_n 0, 1) := by decide +kernel
theorem dX4_rulingsInForce_13 : decode cX4_rulingsInForce 13 = .ok (.iload_n 2, 1) := by decide +kernel
theorem dX4_rulingsInForce_14 : decode cX4_rulingsInForce 14 = .ok (.invokevirtual 55, 3) := by decide +kernel
theorem dX4_rulingsInForce_17 : decode cX4_rulingsInForce 17 = .ok (.astore_n 3, 1) := by decide +kernel
theorem dX4_rulingsInForce_18 : decode cX4_rulingsInForce 18 = .ok (.aload_n 3, 1) := by decide +kernel
theorem dX4_rulingsInForce_19 : decode cX4_rulingsInForce 19 = .ok (.ifnull 13, 3) := by decide +kernel
theorem dX4_rulingsInForce_22 : decode cX4_rulingsInForce 22 = .ok (.aload_n 3, 1) := by decide +kernel
theorem dX4_rulingsInForce_23 : decode cX4_rulingsInForce 23 = .ok (.getfield 119, 3) := by decide +kernel
theorem dX4_rulingsInForce_26 : decode cX4_rulingsInForce 26 = .ok (.ifCond .eq 6, 3) := by decide +kernel
theorem dX4_rulingsInForce_29 : decode cX4_rulingsInForce 29 = .ok (.iinc 1 1, 3) := by decide +kernel
theorem dX4_rulingsInForce_32 : decode cX4_rulingsInForce 32 = .ok (.iinc 2 1, 3) := by decide +kernel
theorem dX4_rulingsInForce_35 : decode cX4_rulingsInForce 35 = .ok (.goto (-31), 3) := by decide +kernel
theorem dX4_rulingsInForce_38 : decode cX4_rulingsInForce 38 = .ok (.iload_n 1, 1) := by decide +kernel
theorem dX4_rulingsInForce_39 : decode cX4_rulingsInForce 39 = .ok (.ireturn, 1) := by decide +kernel
theorem dX4_rulingsThatCount_0 : decode cX4_rulingsThatCount 0 = .ok (.iconst 0, 1) := by decide +kernel
theorem dX4_rulingsThatCount_1 : decode cX4_rulingsThatCount 1 = .ok (.istore_n 1, 1) := by decide +kernel
theorem dX4_rulingsThatCount_2 : decode cX4_rulingsThatCount 2 = .ok (.iconst 0, 1) := by decide +kernel
theorem dX4_rulingsThatCount_3 : decode cX4_rulingsThatCount 3 = .ok (.istore_n 2, 1) := by decide +kernel
theorem dX4_rulingsThatCount_4 : decode cX4_rulingsThatCount 4 = .ok (.iload_n 2, 1) := by decide +kernel
theorem dX4_rulingsThatCount_5 : decode cX4_rulingsThatCount 5 = .ok (.aload_n 0, 1) := by decide +kernel
theorem dX4_rulingsThatCount_6 : decode cX4_rulingsThatCount 6 = .ok (.getfield 44, 3) := by decide +kernel
theorem dX4_rulingsThatCount_9 : decode cX4_rulingsThatCount 9 = .ok (.if_icmp .ge 20, 3) := by decide +kernel
theorem dX4_rulingsThatCount_12 : decode cX4_rulingsThatCount 12 = .ok (.aload_n 0, 1) := by decide +kernel
theorem dX4_rulingsThatCount_13 : decode cX4_rulingsThatCount 13 = .ok (.iload_n 2, 1) := by decide +kernel
theorem dX4_rulingsThatCount_14 : decode cX4_rulingsThatCount 14 = .ok (.invokevirtual 122, 3) := by decide +kernel
theorem dX4_rulingsThatCount_17 : decode cX4_rulingsThatCount 17 = .ok (.ifCond .eq 6, 3) := by decide +kernel
theorem dX4_rulingsThatCount_20 : decode cX4_rulingsThatCount 20 = .ok (.iinc 1 1, 3) := by decide +kernel
theorem dX4_rulingsThatCount_23 : decode cX4_rulingsThatCount 23 = .ok (.iinc 2 1, 3) := by decide +kernel
theorem dX4_rulingsThatCount_26 : decode cX4_rulingsThatCount 26 = .ok (.goto (-22), 3) := by decide +kernel
theorem dX4_rulingsThatCount_29 : decode cX4_rulingsThatCount 29 = .ok (.iload_n 1, 1) := by decide +kernel
theorem dX4_rulingsThatCount_30 : decode cX4_rulingsThatCount 30 = .ok (.ireturn, 1) := by decide +kernel
theorem dX4_citationsOf_0 : decode cX4_citationsOf 0 = .ok (.iconst 0, 1) := by decide +kernel
theorem dX4_citationsOf_1 : decode cX4_citationsOf 1 = .ok (.istore_n 2, 1) := by decide +kernel
theorem dX4_citationsOf_2 : decode cX4_citationsOf 2 = .ok (.iconst 0, 1) := by decide +kernel
theorem dX4_citationsOf_3 : decode cX4_citationsOf 3 = .ok (.istore_n 3, 1) := by decide +kernel
theorem dX4_citationsOf_4 : decode cX4_citationsOf 4 = .ok (.iload_n 3, 1) := by decide +kernel
theorem dX4_citationsOf_5 : decode cX4_citationsOf 5 = .ok (.aload_n 0, 1) := by decide +kernel
theorem dX4_citationsOf_6 : decode cX4_citationsOf 6 = .ok (.getfield 44, 3) := by decide +kernel
theorem dX4_citationsOf_9 : decode cX4_citationsOf 9 = .ok (.if_icmp .ge 33, 3) := by decide +kernel
theorem dX4_citationsOf_12 : decode cX4_citationsOf 12 = .ok (.aload_n 0, 1) := by decide +kernel
theorem dX4_citationsOf_13 : decode cX4_citationsOf 13 = .ok (.iload_n 3, 1) := by decide +kernel
theorem dX4_citationsOf_14 : decode cX4_citationsOf 14 = .ok (.invokevirtual 55, 3) := by decide +kernel
theorem dX4_citationsOf_17 : decode cX4_citationsOf 17 = .ok (.astore 4, 2) := by decide +kernel
theorem dX4_citationsOf_19 : decode cX4_citationsOf 19 = .ok (.aload 4, 2) := by decide +kernel
theorem dX4_citationsOf_21 : decode cX4_citationsOf 21 = .ok (.ifnull 15, 3) := by decide +kernel
theorem dX4_citationsOf_24 : decode cX4_citationsOf 24 = .ok (.aload 4, 2) := by decide +kernel
theorem dX4_citationsOf_26 : decode cX4_citationsOf 26 = .ok (.getfield 110, 3) := by decide +kernel
theorem dX4_citationsOf_29 : decode cX4_citationsOf 29 = .ok (.iload_n 1, 1) := by decide +kernel
theorem dX4_citationsOf_30 : decode cX4_citationsOf 30 = .ok (.if_icmp .ne 6, 3) := by decide +kernel
theorem dX4_citationsOf_33 : decode cX4_citationsOf 33 = .ok (.iinc 2 1, 3) := by decide +kernel
theorem dX4_citationsOf_36 : decode cX4_citationsOf 36 = .ok (.iinc 3 1, 3) := by decide +kernel
theorem dX4_citationsOf_39 : decode cX4_citationsOf 39 = .ok (.goto (-35), 3) := by decide +kernel
theorem dX4_citationsOf_42 : decode cX4_citationsOf 42 = .ok (.iload_n 2, 1) := by decide +kernel
theorem dX4_citationsOf_43 : decode cX4_citationsOf 43 = .ok (.ireturn, 1) := by decide +kernel
theorem dX4_countingAbout_0 : decode cX4_countingAbout 0 = .ok (.aload_n 0, 1) := by decide +kernel
theorem dX4_countingAbout_1 : decode cX4_countingAbout 1 = .ok (.getfield 44, 3) := by decide +kernel
theorem dX4_countingAbout_4 : decode cX4_countingAbout 4 = .ok (.iconst 1, 1) := by decide +kernel
theorem dX4_countingAbout_5 : decode cX4_countingAbout 5 = .ok (.isub, 1) := by decide +kernel
theorem dX4_countingAbout_6 : decode cX4_countingAbout 6 = .ok (.istore_n 3, 1) := by decide +kernel
theorem dX4_countingAbout_7 : decode cX4_countingAbout 7 = .ok (.iload_n 3, 1) := by decide +kernel
theorem dX4_countingAbout_8 : decode cX4_countingAbout 8 = .ok (.ifCond .lt 49, 3) := by decide +kernel
theorem dX4_countingAbout_11 : decode cX4_countingAbout 11 = .ok (.aload_n 0, 1) := by decide +kernel
theorem dX4_countingAbout_12 : decode cX4_countingAbout 12 = .ok (.iload_n 3, 1) := by decide +kernel
theorem dX4_countingAbout_13 : decode cX4_countingAbout 13 = .ok (.invokevirtual 55, 3) := by decide +kernel
theorem dX4_countingAbout_16 : decode cX4_countingAbout 16 = .ok (.astore 4, 2) := by decide +kernel
theorem dX4_countingAbout_18 : decode cX4_countingAbout 18 = .ok (.aload 4, 2) := by decide +kernel
theorem dX4_countingAbout_20 : decode cX4_countingAbout 20 = .ok (.ifnull 31, 3) := by decide +kernel
theorem dX4_countingAbout_23 : decode cX4_countingAbout 23 = .ok (.aload 4, 2) := by decide +kernel
theorem dX4_countingAbout_25 : decode cX4_countingAbout 25 = .ok (.getfield 119, 3) := by decide +kernel
theorem dX4_countingAbout_28 : decode cX4_countingAbout 28 = .ok (.ifCond .eq 23, 3) := by decide +kernel
theorem dX4_countingAbout_31 : decode cX4_countingAbout 31 = .ok (.aload 4, 2) := by decide +kernel
theorem dX4_countingAbout_33 : decode cX4_countingAbout 33 = .ok (.getfield 97, 3) := by decide +kernel
theorem dX4_countingAbout_36 : decode cX4_countingAbout 36 = .ok (.iload_n 1, 1) := by decide +kernel
theorem dX4_countingAbout_37 : decode cX4_countingAbout 37 = .ok (.if_icmp .ne 14, 3) := by decide +kernel
theorem dX4_countingAbout_40 : decode cX4_countingAbout 40 = .ok (.aload 4, 2) := by decide +kernel
theorem dX4_countingAbout_42 : decode cX4_countingAbout 42 = .ok (.getfield 100, 3) := by decide +kernel
theorem dX4_countingAbout_45 : decode cX4_countingAbout 45 = .ok (.iload_n 2, 1) := by decide +kernel
theorem dX4_countingAbout_46 : decode cX4_countingAbout 46 = .ok (.if_icmp .ne 5, 3) := by decide +kernel
theorem dX4_countingAbout_49 : decode cX4_countingAbout 49 = .ok (.iload_n 3, 1) := by decide +kernel
theorem dX4_countingAbout_50 : decode cX4_countingAbout 50 = .ok (.ireturn, 1) := by decide +kernel
theorem dX4_countingAbout_51 : decode cX4_countingAbout 51 = .ok (.iinc 3 (-1), 3) := by decide +kernel
theorem dX4_countingAbout_54 : decode cX4_countingAbout 54 = .ok (.goto (-47), 3) := by decide +kernel
theorem dX4_countingAbout_57 : decode cX4_countingAbout 57 = .ok (.bipush (-4), 2) := by decide +kernel
theorem dX4_countingAbout_59 : decode cX4_countingAbout 59 = .ok (.ireturn, 1) := by decide +kernel
theorem dX4_countingAt_0 : decode cX4_countingAt 0 = .ok (.aload_n 0, 1) := by decide +kernel
theorem dX4_countingAt_1 : decode cX4_countingAt 1 = .ok (.aload_n 1, 1) := by decide +kernel
theorem dX4_countingAt_2 : decode cX4_countingAt 2 = .ok (.iload_n 2, 1) := by decide +kernel
theorem dX4_countingAt_3 : decode cX4_countingAt 3 = .ok (.invokevirtual 126, 3) := by decide +kernel
theorem dX4_countingAt_6 : decode cX4_countingAt 6 = .ok (.aload_n 1, 1) := by decide +kernel
theorem dX4_countingAt_7 : decode cX4_countingAt 7 = .ok (.iload_n 2, 1) := by decide +kernel
theorem dX4_countingAt_8 : decode cX4_countingAt 8 = .ok (.iconst 1, 1) := by decide +kernel
theorem dX4_countingAt_9 : decode cX4_countingAt 9 = .ok (.iadd, 1) := by decide +kernel
theorem dX4_countingAt_10 : decode cX4_countingAt 10 = .ok (.invokevirtual 126, 3) := by decide +kernel
theorem dX4_countingAt_13 : decode cX4_countingAt 13 = .ok (.invokevirtual 129, 3) := by decide +kernel
theorem dX4_countingAt_16 : decode cX4_countingAt 16 = .ok (.ireturn, 1) := by decide +kernel
theorem dX4_counts_0 : decode cX4_counts 0 = .ok (.aload_n 0, 1) := by decide +kernel
theorem dX4_counts_1 : decode cX4_counts 1 = .ok (.iload_n 1, 1) := by decide +kernel
theorem dX4_counts_2 : decode cX4_counts 2 = .ok (.invokevirtual 55, 3) := by decide +kernel
theorem dX4_counts_5 : decode cX4_counts 5 = .ok (.astore_n 2, 1) := by decide +kernel
theorem dX4_counts_6 : decode cX4_counts 6 = .ok (.aload_n 2, 1) := by decide +kernel
theorem dX4_counts_7 : decode cX4_counts 7 = .ok (.ifnull 23, 3) := by decide +kernel
theorem dX4_counts_10 : decode cX4_counts 10 = .ok (.aload_n 0, 1) := by decide +kernel
theorem dX4_counts_11 : decode cX4_counts 11 = .ok (.aload_n 2, 1) := by decide +kernel
theorem dX4_counts_12 : decode cX4_counts 12 = .ok (.getfield 97, 3) := by decide +kernel
theorem dX4_counts_15 : decode cX4_counts 15 = .ok (.aload_n 2, 1) := by decide +kernel
theorem dX4_counts_16 : decode cX4_counts 16 = .ok (.getfield 100, 3) := by decide +kernel
theorem dX4_counts_19 : decode cX4_counts 19 = .ok (.invokevirtual 129, 3) := by decide +kernel
theorem dX4_counts_22 : decode cX4_counts 22 = .ok (.iload_n 1, 1) := by decide +kernel
theorem dX4_counts_23 : decode cX4_counts 23 = .ok (.if_icmp .ne 7, 3) := by decide +kernel
theorem dX4_counts_26 : decode cX4_counts 26 = .ok (.iconst 1, 1) := by decide +kernel
theorem dX4_counts_27 : decode cX4_counts 27 = .ok (.goto 4, 3) := by decide +kernel
theorem dX4_counts_30 : decode cX4_counts 30 = .ok (.iconst 0, 1) := by decide +kernel
theorem dX4_counts_31 : decode cX4_counts 31 = .ok (.ireturn, 1) := by decide +kernel
theorem dX4_fineAt_0 : decode cX4_fineAt 0 = .ok (.aload_n 0, 1) := by decide +kernel
theorem dX4_fineAt_1 : decode cX4_fineAt 1 = .ok (.aload_n 0, 1) := by decide +kernel
theorem dX4_fineAt_2 : decode cX4_fineAt 2 = .ok (.aload_n 1, 1) := by decide +kernel
theorem dX4_fineAt_3 : decode cX4_fineAt 3 = .ok (.iload_n 2, 1) := by decide +kernel
theorem dX4_fineAt_4 : decode cX4_fineAt 4 = .ok (.invokevirtual 133, 3) := by decide +kernel
theorem dX4_fineAt_7 : decode cX4_fineAt 7 = .ok (.invokevirtual 55, 3) := by decide +kernel
theorem dX4_fineAt_10 : decode cX4_fineAt 10 = .ok (.astore_n 3, 1) := by decide +kernel
theorem dX4_fineAt_11 : decode cX4_fineAt 11 = .ok (.aload_n 3, 1) := by decide +kernel
theorem dX4_fineAt_12 : decode cX4_fineAt 12 = .ok (.ifnonnull 7, 3) := by decide +kernel
theorem dX4_fineAt_15 : decode cX4_fineAt 15 = .ok (.iconst 0, 1) := by decide +kernel
theorem dX4_fineAt_16 : decode cX4_fineAt 16 = .ok (.goto 12, 3) := by decide +kernel
theorem dX4_fineAt_19 : decode cX4_fineAt 19 = .ok (.aload_n 3, 1) := by decide +kernel
theorem dX4_fineAt_20 : decode cX4_fineAt 20 = .ok (.aload_n 1, 1) := by decide +kernel
theorem dX4_fineAt_21 : decode cX4_fineAt 21 = .ok (.iload_n 2, 1) := by decide +kernel
theorem dX4_fineAt_22 : decode cX4_fineAt 22 = .ok (.invokevirtual 137, 3) := by decide +kernel
theorem dX4_fineAt_25 : decode cX4_fineAt 25 = .ok (.invokevirtual 140, 3) := by decide +kernel
theorem dX4_fineAt_28 : decode cX4_fineAt 28 = .ok (.ireturn, 1) := by decide +kernel
theorem dX4_finesBroughtBy_0 : decode cX4_finesBroughtBy 0 = .ok (.iconst 0, 1) := by decide +kernel
theorem dX4_finesBroughtBy_1 : decode cX4_finesBroughtBy 1 = .ok (.istore_n 2, 1) := by decide +kernel
theorem dX4_finesBroughtBy_2 : decode cX4_finesBroughtBy 2 = .ok (.iconst 0, 1) := by decide +kernel
theorem dX4_finesBroughtBy_3 : decode cX4_finesBroughtBy 3 = .ok (.istore_n 3, 1) := by decide +kernel
theorem dX4_finesBroughtBy_4 : decode cX4_finesBroughtBy 4 = .ok (.iload_n 3, 1) := by decide +kernel
theorem dX4_finesBroughtBy_5 : decode cX4_finesBroughtBy 5 = .ok (.aload_n 0, 1) := by decide +kernel
theorem dX4_finesBroughtBy_6 : decode cX4_finesBroughtBy 6 = .ok (.getfield 40, 3) := by decide +kernel
theorem dX4_finesBroughtBy_9 : decode cX4_finesBroughtBy 9 = .ok (.if_icmp .ge 69, 3) := by decide +kernel
theorem dX4_finesBroughtBy_12 : decode cX4_finesBroughtBy 12 = .ok (.aload_n 0, 1) := by decide +kernel
theorem dX4_finesBroughtBy_13 : decode cX4_finesBroughtBy 13 = .ok (.iload_n 3, 1) := by decide +kernel
theorem dX4_finesBroughtBy_14 : decode cX4_finesBroughtBy 14 = .ok (.invokevirtual 47, 3) := by decide +kernel
theorem dX4_finesBroughtBy_17 : decode cX4_finesBroughtBy 17 = .ok (.astore 4, 2) := by decide +kernel
theorem dX4_finesBroughtBy_19 : decode cX4_finesBroughtBy 19 = .ok (.aload 4, 2) := by decide +kernel
theorem dX4_finesBroughtBy_21 : decode cX4_finesBroughtBy 21 = .ok (.ifnull 51, 3) := by decide +kernel
theorem dX4_finesBroughtBy_24 : decode cX4_finesBroughtBy 24 = .ok (.iconst 0, 1) := by decide +kernel
theorem dX4_finesBroughtBy_25 : decode cX4_finesBroughtBy 25 = .ok (.istore 5, 2) := by decide +kernel
theorem dX4_finesBroughtBy_27 : decode cX4_finesBroughtBy 27 = .ok (.iload 5, 2) := by decide +kernel
theorem dX4_finesBroughtBy_29 : decode cX4_finesBroughtBy 29 = .ok (.aload 4, 2) := by decide +kernel
theorem dX4_finesBroughtBy_31 : decode cX4_finesBroughtBy 31 = .ok (.getfield 94, 3) := by decide +kernel
theorem dX4_finesBroughtBy_34 : decode cX4_finesBroughtBy 34 = .ok (.iconst 1, 1) := by decide +kernel
theorem dX4_finesBroughtBy_35 : decode cX4_finesBroughtBy 35 = .ok (.isub, 1) := by decide +kernel
theorem dX4_finesBroughtBy_36 : decode cX4_finesBroughtBy 36 = .ok (.if_icmp .ge 36, 3) := by decide +kernel
theorem dX4_finesBroughtBy_39 : decode cX4_finesBroughtBy 39 = .ok (.iload_n 2, 1) := by decide +kernel
theorem dX4_finesBroughtBy_40 : decode cX4_finesBroughtBy 40 = .ok (.aload_n 0, 1) := by decide +kernel
theorem dX4_finesBroughtBy_41 : decode cX4_finesBroughtBy 41 = .ok (.aload 4, 2) := by decide +kernel
theorem dX4_finesBroughtBy_43 : decode cX4_finesBroughtBy 43 = .ok (.iload 5, 2) := by decide +kernel
theorem dX4_finesBroughtBy_45 : decode cX4_finesBroughtBy 45 = .ok (.invokevirtual 133, 3) := by decide +kernel
theorem dX4_finesBroughtBy_48 : decode cX4_finesBroughtBy 48 = .ok (.iload_n 1, 1) := by decide +kernel
theorem dX4_finesBroughtBy_49 : decode cX4_finesBroughtBy 49 = .ok (.if_icmp .ne 14, 3) := by decide +kernel
theorem dX4_finesBroughtBy_52 : decode cX4_finesBroughtBy 52 = .ok (.aload_n 0, 1) := by decide +kernel
theorem dX4_finesBroughtBy_53 : decode cX4_finesBroughtBy 53 = .ok (.aload 4, 2) := by decide +kernel
theorem dX4_finesBroughtBy_55 : decode cX4_finesBroughtBy 55 = .ok (.iload 5, 2) := by decide +kernel
theorem dX4_finesBroughtBy_57 : decode cX4_finesBroughtBy 57 = .ok (.invokevirtual 144, 3) := by decide +kernel
theorem dX4_finesBroughtBy_60 : decode cX4_finesBroughtBy 60 = .ok (.goto 4, 3) := by decide +kernel
theorem dX4_finesBroughtBy_63 : decode cX4_finesBroughtBy 63 = .ok (.iconst 0, 1) := by decide +kernel
theorem dX4_finesBroughtBy_64 : decode cX4_finesBroughtBy 64 = .ok (.iadd, 1) := by decide +kernel
theorem dX4_finesBroughtBy_65 : decode cX4_finesBroughtBy 65 = .ok (.istore_n 2, 1) := by decide +kernel
theorem dX4_finesBroughtBy_66 : decode cX4_finesBroughtBy 66 = .ok (.iinc 5 1, 3) := by decide +kernel
theorem dX4_finesBroughtBy_69 : decode cX4_finesBroughtBy 69 = .ok (.goto (-42), 3) := by decide +kernel
theorem dX4_finesBroughtBy_72 : decode cX4_finesBroughtBy 72 = .ok (.iinc 3 1, 3) := by decide +kernel
theorem dX4_finesBroughtBy_75 : decode cX4_finesBroughtBy 75 = .ok (.goto (-71), 3) := by decide +kernel
theorem dX4_finesBroughtBy_78 : decode cX4_finesBroughtBy 78 = .ok (.iload_n 2, 1) := by decide +kernel
theorem dX4_finesBroughtBy_79 : decode cX4_finesBroughtBy 79 = .ok (.ireturn, 1) := by decide +kernel
theorem dX5_init_0 : decode cX5_init 0 = .ok (.aload_n 0, 1) := by decide +kernel
theorem dX5_init_1 : decode cX5_init 1 = .ok (.invokespecial 1, 3) := by decide +kernel
theorem dX5_init_4 : decode cX5_init 4 = .ok (.aload_n 0, 1) := by decide +kernel
theorem dX5_init_5 : decode cX5_init 5 = .ok (.new 7, 3) := by decide +kernel
theorem dX5_init_8 : decode cX5_init 8 = .ok (.dup, 1) := by decide +kernel
theorem dX5_init_9 : decode cX5_init 9 = .ok (.invokespecial 9, 3) := by decide +kernel
theorem dX5_init_12 : decode cX5_init 12 = .ok (.putfield 10, 3) := by decide +kernel
theorem dX5_init_15 : decode cX5_init 15 = .ok (.aload_n 0, 1) := by decide +kernel
theorem dX5_init_16 : decode cX5_init 16 = .ok (.new 7, 3) := by decide +kernel
theorem dX5_init_19 : decode cX5_init 19 = .ok (.dup, 1) := by decide +kernel
theorem dX5_init_20 : decode cX5_init 20 = .ok (.invokespecial 9, 3) := by decide +kernel
theorem dX5_init_23 : decode cX5_init 23 = .ok (.putfield 16, 3) := by decide +kernel
theorem dX5_init_26 : decode cX5_init 26 = .ok (.aload_n 0, 1) := by decide +kernel
theorem dX5_init_27 : decode cX5_init 27 = .ok (.iconst 4, 1) := by decide +kernel
theorem dX5_init_28 : decode cX5_init 28 = .ok (.anewarray 7, 3) := by decide +kernel
theorem dX5_init_31 : decode cX5_init 31 = .ok (.putfield 19, 3) := by decide +kernel
theorem dX5_init_34 : decode cX5_init 34 = .ok (.aload_n 0, 1) := by decide +kernel
theorem dX5_init_35 : decode cX5_init 35 = .ok (.new 23, 3) := by decide +kernel
theorem dX5_init_38 : decode cX5_init 38 = .ok (.dup, 1) := by decide +kernel
theorem dX5_init_39 : decode cX5_init 39 = .ok (.invokespecial 25, 3) := by decide +kernel
theorem dX5_init_42 : decode cX5_init 42 = .ok (.putfield 26, 3) := by decide +kernel
theorem dX5_init_45 : decode cX5_init 45 = .ok (.aload_n 0, 1) := by decide +kernel
theorem dX5_init_46 : decode cX5_init 46 = .ok (.new 30, 3) := by decide +kernel
theorem dX5_init_49 : decode cX5_init 49 = .ok (.dup, 1) := by decide +kernel
theorem dX5_init_50 : decode cX5_init 50 = .ok (.invokespecial 32, 3) := by decide +kernel
theorem dX5_init_53 : decode cX5_init 53 = .ok (.putfield 33, 3) := by decide +kernel
theorem dX5_init_56 : decode cX5_init 56 = .ok (.aload_n 0, 1) := by decide +kernel
theorem dX5_init_57 : decode cX5_init 57 = .ok (.new 37, 3) := by decide +kernel
theorem dX5_init_60 : decode cX5_init 60 = .ok (.dup, 1) := by decide +kernel
theorem dX5_init_61 : decode cX5_init 61 = .ok (.invokespecial 39, 3) := by decide +kernel
theorem dX5_init_64 : decode cX5_init 64 = .ok (.putfield 40, 3) := by decide +kernel
theorem dX5_init_67 : decode cX5_init 67 = .ok (.iconst 0, 1) := by decide +kernel
theorem dX5_init_68 : decode cX5_init 68 = .ok (.istore_n 1, 1) := by decide +kernel
theorem dX5_init_69 : decode cX5_init 69 = .ok (.iload_n 1, 1) := by decide +kernel
theorem dX5_init_70 : decode cX5_init 70 = .ok (.aload_n 0, 1) := by decide +kernel
theorem dX5_init_71 : decode cX5_init 71 = .ok (.getfield 19, 3) := by decide +kernel
theorem dX5_init_74 : decode cX5_init 74 = .ok (.arraylength, 1) := by decide +kernel
theorem dX5_init_75 : decode cX5_init 75 = .ok (.if_icmp .ge 22, 3) := by decide +kernel
theorem dX5_init_78 : decode cX5_init 78 = .ok (.aload_n 0, 1) := by decide +kernel
theorem dX5_init_79 : decode cX5_init 79 = .ok (.getfield 19, 3) := by decide +kernel
theorem dX5_init_82 : decode cX5_init 82 = .ok (.iload_n 1, 1) := by decide +kernel
theorem dX5_init_83 : decode cX5_init 83 = .ok (.new 7, 3) := by decide +kernel
theorem dX5_init_86 : decode cX5_init 86 = .ok (.dup, 1) := by decide +kernel
theorem dX5_init_87 : decode cX5_init 87 = .ok (.invokespecial 9, 3) := by decide +kernel
theorem dX5_init_90 : decode cX5_init 90 = .ok (.aastore, 1) := by decide +kernel
theorem dX5_init_91 : decode cX5_init 91 = .ok (.iinc 1 1, 3) := by decide +kernel
theorem dX5_init_94 : decode cX5_init 94 = .ok (.goto (-25), 3) := by decide +kernel
theorem dX5_init_97 : decode cX5_init 97 = .ok (.return_, 1) := by decide +kernel
theorem dX5_weight_0 : decode cX5_weight 0 = .ok (.iload_n 1, 1) := by decide +kernel
theorem dX5_weight_1 : decode cX5_weight 1 = .ok (.invokestatic 44, 3) := by decide +kernel
theorem dX5_weight_4 : decode cX5_weight 4 = .ok (.ifCond .eq 13, 3) := by decide +kernel
theorem dX5_weight_7 : decode cX5_weight 7 = .ok (.iload_n 2, 1) := by decide +kernel
theorem dX5_weight_8 : decode cX5_weight 8 = .ok (.iconst 1, 1) := by decide +kernel
theorem dX5_weight_9 : decode cX5_weight 9 = .ok (.bipush 9, 2) := by decide +kernel
theorem dX5_weight_11 : decode cX5_weight 11 = .ok (.invokestatic 48, 3) := by decide +kernel
theorem dX5_weight_14 : decode cX5_weight 14 = .ok (.ifCond .ne 5, 3) := by decide +kernel
theorem dX5_weight_17 : decode cX5_weight 17 = .ok (.iconst (-1), 1) := by decide +kernel
theorem dX5_weight_18 : decode cX5_weight 18 = .ok (.ireturn, 1) := by decide +kernel
theorem dX5_weight_19 : decode cX5_weight 19 = .ok (.aload_n 0, 1) := by decide +kernel
theorem dX5_weight_20 : decode cX5_weight 20 = .ok (.invokevirtual 52, 3) := by decide +kernel
theorem dX5_weight_23 : decode cX5_weight 23 = .ok (.aload_n 0, 1) := by decide +kernel
theorem dX5_weight_24 : decode cX5_weight 24 = .ok (.getfield 10, 3) := by decide +kernel
theorem dX5_weight_27 : decode cX5_weight 27 = .ok (.getfield 55, 3) := by decide +kernel
theorem dX5_weight_30 : decode cX5_weight 30 = .ok (.iload_n 1, 1) := by decide +kernel
theorem dX5_weight_31 : decode cX5_weight 31 = .ok (.invokestatic 59, 3) := by decide +kernel
theorem dX5_weight_34 : decode cX5_weight 34 = .ok (.istore_n 3, 1) := by decide +kernel
theorem dX5_weight_35 : decode cX5_weight 35 = .ok (.aload_n 0, 1) := by decide +kernel
theorem dX5_weight_36 : decode cX5_weight 36 = .ok (.getfield 10, 3) := by decide +kernel
theorem dX5_weight_39 : decode cX5_weight 39 = .ok (.getfield 55, 3) := by decide +kernel
theorem dX5_weight_42 : decode cX5_weight 42 = .ok (.iload_n 1, 1) := by decide +kernel
theorem dX5_weight_43 : decode cX5_weight 43 = .ok (.iload_n 2, 1) := by decide +kernel
theorem dX5_weight_44 : decode cX5_weight 44 = .ok (.invokestatic 63, 3) := by decide +kernel
theorem dX5_weight_47 : decode cX5_weight 47 = .ok (.iload_n 3, 1) := by decide +kernel
theorem dX5_weight_48 : decode cX5_weight 48 = .ok (.ireturn, 1) := by decide +kernel
theorem dX5_set_0 : decode cX5_set 0 = .ok (.iload_n 1, 1) := by decide +kernel
theorem dX5_set_1 : decode cX5_set 1 = .ok (.ifCond .ne 13, 3) := by decide +kernel
theorem dX5_set_4 : decode cX5_set 4 = .ok (.iload_n 2, 1) := by decide +kernel
theorem dX5_set_5 : decode cX5_set 5 = .ok (.iconst 1, 1) := by decide +kernel
theorem dX5_set_6 : decode cX5_set 6 = .ok (.bipush 30, 2) := by decide +kernel
theorem dX5_set_8 : decode cX5_set 8 = .ok (.invokestatic 48, 3) := by decide +kernel
theorem dX5_set_11 : decode cX5_set 11 = .ok (.ifCond .ne 19, 3) := by decide +kernel
theorem dX5_set_14 : decode cX5_set 14 = .ok (.iload_n 1, 1) := by decide +kernel
theorem dX5_set_15 : decode cX5_set 15 = .ok (.iconst 1, 1) := by decide +kernel
theorem dX5_set_16 : decode cX5_set 16 = .ok (.if_icmp .ne 18, 3) := by decide +kernel
theorem dX5_set_19 : decode cX5_set 19 = .ok (.iload_n 2, 1) := by decide +kernel
theorem dX5_set_20 : decode cX5_set 20 = .ok (.bipush 9, 2) := by decide +kernel
theorem dX5_set_22 : decode cX5_set 22 = .ok (.bipush 60, 2) := by decide +kernel
theorem dX5_set_24 : decode cX5_set 24 = .ok (.invokestatic 48, 3) := by decide +kernel
theorem dX5_set_27 : decode cX5_set 27 = .ok (.ifCond .eq 7, 3) := by decide +kernel
theorem dX5_set_30 : decode cX5_set 30 = .ok (.iconst 1, 1) := by decide +kernel
theorem dX5_set_31 : decode cX5_set 31 = .ok (.goto 4, 3) := by decide +kernel
theorem dX5_set_34 : decode cX5_set 34 = .ok (.iconst 0, 1) := by decide +kernel
theorem dX5_set_35 : decode cX5_set 35 = .ok (.istore_n 3, 1) := by decide +kernel
theorem dX5_set_36 : decode cX5_set 36 = .ok (.iload_n 3, 1) := by decide +kernel
theorem dX5_set_37 : decode cX5_set 37 = .ok (.ifCond .ne 5, 3) := by decide +kernel
theorem dX5_set_40 : decode cX5_set 40 = .ok (.iconst (-1), 1) := by decide +kernel
theorem dX5_set_41 : decode cX5_set 41 = .ok (.ireturn, 1) := by decide +kernel
theorem dX5_set_42 : decode cX5_set 42 = .ok (.aload_n 0, 1) := by decide +kernel
theorem dX5_set_43 : decode cX5_set 43 = .ok (.invokevirtual 52, 3) := by decide +kernel
theorem dX5_set_46 : decode cX5_set 46 = .ok (.aload_n 0, 1) := by decide +kernel
theorem dX5_set_47 : decode cX5_set 47 = .ok (.getfield 10, 3) := by decide +kernel
theorem dX5_set_50 : decode cX5_set 50 = .ok (.getfield 67, 3) := by decide +kernel
theorem dX5_set_53 : decode cX5_set 53 = .ok (.iload_n 1, 1) := by decide +kernel
theorem dX5_set_54 : decode cX5_set 54 = .ok (.invokestatic 59, 3) := by decide +kernel
theorem dX5_set_57 : decode cX5_set 57 = .ok (.istore 4, 2) := by decide +kernel
theorem dX5_set_59 : decode cX5_set 59 = .ok (.aload_n 0, 1) := by decide +kernel
theorem dX5_set_60 : decode cX5_set 60 = .ok (.getfield 10, 3) := by decide +kernel
theorem dX5_set_63 : decode cX5_set 63 = .ok (.getfield 67, 3) := by decide +kernel
theorem dX5_set_66 : decode cX5_set 66 = .ok (.iload_n 1, 1) := by decide +kernel
theorem dX5_set_67 : decode cX5_set 67 = .ok (.iload_n 2, 1) := by decide +kernel
theorem dX5_set_68 : decode cX5_set 68 = .ok (.invokestatic 63, 3) := by decide +kernel
theorem dX5_set_71 : decode cX5_set 71 = .ok (.iload 4, 2) := by decide +kernel
theorem dX5_set_73 : decode cX5_set 73 = .ok (.ireturn, 1) := by decide +kernel
theorem dX5_rule_0 : decode cX5_rule 0 = .ok (.iload_n 1, 1) := by decide +kernel
theorem dX5_rule_1 : decode cX5_rule 1 = .ok (.iload_n 2, 1) := by decide +kernel
theorem dX5_rule_2 : decode cX5_rule 2 = .ok (.iload 4, 2) := by decide +kernel
theorem dX5_rule_4 : decode cX5_rule 4 = .ok (.invokestatic 70, 3) := by decide +kernel
theorem dX5_rule_7 : decode cX5_rule 7 = .ok (.ifCond .eq 21, 3) := by decide +kernel
theorem dX5_rule_10 : decode cX5_rule 10 = .ok (.iload 5, 2) := by decide +kernel
theorem dX5_rule_12 : decode cX5_rule 12 = .ok (.iconst (-1), 1) := by decide +kernel
theorem dX5_rule_13 : decode cX5_rule 13 = .ok (.aload_n 0, 1) := by decide +kernel
theorem dX5_rule_14 : decode cX5_rule 14 = .ok (.getfield 10, 3) := by decide +kernel
theorem dX5_rule_17 : decode cX5_rule 17 = .ok (.getfield 73, 3) := by decide +kernel
theorem dX5_rule_20 : decode cX5_rule 20 = .ok (.iconst 1, 1) := by decide +kernel
theorem dX5_rule_21 : decode cX5_rule 21 = .ok (.isub, 1) := by decide +kernel
theorem dX5_rule_22 : decode cX5_rule 22 = .ok (.invokestatic 48, 3) := by decide +kernel
theorem dX5_rule_25 : decode cX5_rule 25 = .ok (.ifCond .ne 5, 3) := by decide +kernel
theorem dX5_rule_28 : decode cX5_rule 28 = .ok (.iconst (-1), 1) := by decide +kernel
theorem dX5_rule_29 : decode cX5_rule 29 = .ok (.ireturn, 1) := by decide +kernel
theorem dX5_rule_30 : decode cX5_rule 30 = .ok (.aload_n 0, 1) := by decide +kernel
theorem dX5_rule_31 : decode cX5_rule 31 = .ok (.getfield 10, 3) := by decide +kernel
theorem dX5_rule_34 : decode cX5_rule 34 = .ok (.getfield 73, 3) := by decide +kernel
theorem dX5_rule_37 : decode cX5_rule 37 = .ok (.bipush 10, 2) := by decide +kernel
theorem dX5_rule_39 : decode cX5_rule 39 = .ok (.if_icmp .lt 6, 3) := by decide +kernel
theorem dX5_rule_42 : decode cX5_rule 42 = .ok (.bipush (-3), 2) := by decide +kernel
theorem dX5_rule_44 : decode cX5_rule 44 = .ok (.ireturn, 1) := by decide +kernel
theorem dX5_rule_45 : decode cX5_rule 45 = .ok (.aload_n 0, 1) := by decide +kernel
theorem dX5_rule_46 : decode cX5_rule 46 = .ok (.invokevirtual 52, 3) := by decide +kernel
theorem dX5_rule_49 : decode cX5_rule 49 = .ok (.aload_n 0, 1) := by decide +kernel
theorem dX5_rule_50 : decode cX5_rule 50 = .ok (.getfield 10, 3) := by decide +kernel
theorem dX5_rule_53 : decode cX5_rule 53 = .ok (.iload_n 1, 1) := by decide +kernel
theorem dX5_rule_54 : decode cX5_rule 54 = .ok (.iload_n 2, 1) := by decide +kernel
theorem dX5_rule_55 : decode cX5_rule 55 = .ok (.iload_n 3, 1) := by decide +kernel
theorem dX5_rule_56 : decode cX5_rule 56 = .ok (.iload 4, 2) := by decide +kernel
theorem dX5_rule_58 : decode cX5_rule 58 = .ok (.iload 5, 2) := by decide +kernel
theorem dX5_rule_60 : decode cX5_rule 60 = .ok (.invokevirtual 77, 3) := by decide +kernel
theorem dX5_rule_63 : decode cX5_rule 63 = .ok (.aload_n 0, 1) := by decide +kernel
theorem dX5_rule_64 : decode cX5_rule 64 = .ok (.getfield 10, 3) := by decide +kernel
theorem dX5_rule_67 : decode cX5_rule 67 = .ok (.getfield 73, 3) := by decide +kernel
theorem dX5_rule_70 : decode cX5_rule 70 = .ok (.iconst 1, 1) := by decide +kernel
theorem dX5_rule_71 : decode cX5_rule 71 = .ok (.isub, 1) := by decide +kernel
theorem dX5_rule_72 : decode cX5_rule 72 = .ok (.ireturn, 1) := by decide +kernel
theorem dX5_overrule_0 : decode cX5_overrule 0 = .ok (.aload_n 0, 1) := by decide +kernel
theorem dX5_overrule_1 : decode cX5_overrule 1 = .ok (.getfield 10, 3) := by decide +kernel
theorem dX5_overrule_4 : decode cX5_overrule 4 = .ok (.iload_n 1, 1) := by decide +kernel
theorem dX5_overrule_5 : decode cX5_overrule 5 = .ok (.invokevirtual 81, 3) := by decide +kernel
theorem dX5_overrule_8 : decode cX5_overrule 8 = .ok (.astore_n 2, 1) := by decide +kernel
theorem dX5_overrule_9 : decode cX5_overrule 9 = .ok (.aload_n 2, 1) := by decide +kernel
theorem dX5_overrule_10 : decode cX5_overrule 10 = .ok (.ifnonnull 5, 3) := by decide +kernel
theorem dX5_overrule_13 : decode cX5_overrule 13 = .ok (.iconst (-1), 1) := by decide +kernel
theorem dX5_overrule_14 : decode cX5_overrule 14 = .ok (.ireturn, 1) := by decide +kernel
theorem dX5_overrule_15 : decode cX5_overrule 15 = .ok (.aload_n 2, 1) := by decide +kernel
theorem dX5_overrule_16 : decode cX5_overrule 16 = .ok (.getfield 85, 3) := by decide +kernel
theorem dX5_overrule_19 : decode cX5_overrule 19 = .ok (.ifCond .eq 6, 3) := by decide +kernel
theorem dX5_overrule_22 : decode cX5_overrule 22 = .ok (.bipush (-2), 2) := by decide +kernel
theorem dX5_overrule_24 : decode cX5_overrule 24 = .ok (.ireturn, 1) := by decide +kernel
theorem dX5_overrule_25 : decode cX5_overrule 25 = .ok (.aload_n 0, 1) := by decide +kernel
theorem dX5_overrule_26 : decode cX5_overrule 26 = .ok (.invokevirtual 52, 3) := by decide +kernel
theorem dX5_overrule_29 : decode cX5_overrule 29 = .ok (.aload_n 0, 1) := by decide +kernel
theorem dX5_overrule_30 : decode cX5_overrule 30 = .ok (.getfield 10, 3) := by decide +kernel
theorem dX5_overrule_33 : decode cX5_overrule 33 = .ok (.invokevirtual 91, 3) := by decide +kernel
theorem dX5_overrule_36 : decode cX5_overrule 36 = .ok (.istore_n 3, 1) := by decide +kernel
theorem dX5_overrule_37 : decode cX5_overrule 37 = .ok (.aload_n 2, 1) := by decide +kernel
theorem dX5_overrule_38 : decode cX5_overrule 38 = .ok (.iconst 1, 1) := by decide +kernel
theorem dX5_overrule_39 : decode cX5_overrule 39 = .ok (.putfield 85, 3) := by decide +kernel
theorem dX5_overrule_42 : decode cX5_overrule 42 = .ok (.aload_n 0, 1) := by decide +kernel
theorem dX5_overrule_43 : decode cX5_overrule 43 = .ok (.getfield 10, 3) := by decide +kernel
theorem dX5_overrule_46 : decode cX5_overrule 46 = .ok (.invokevirtual 95, 3) := by decide +kernel
theorem dX5_overrule_49 : decode cX5_overrule 49 = .ok (.iload_n 3, 1) := by decide +kernel
theorem dX5_overrule_50 : decode cX5_overrule 50 = .ok (.aload_n 0, 1) := by decide +kernel
theorem dX5_overrule_51 : decode cX5_overrule 51 = .ok (.getfield 10, 3) := by decide +kernel
theorem dX5_overrule_54 : decode cX5_overrule 54 = .ok (.invokevirtual 91, 3) := by decide +kernel
theorem dX5_overrule_57 : decode cX5_overrule 57 = .ok (.isub, 1) := by decide +kernel
theorem dX5_overrule_58 : decode cX5_overrule 58 = .ok (.ireturn, 1) := by decide +kernel
theorem dX5_print_0 : decode cX5_print 0 = .ok (.aload_n 0, 1) := by decide +kernel
theorem dX5_print_1 : decode cX5_print 1 = .ok (.getfield 26, 3) := by decide +kernel
theorem dX5_print_4 : decode cX5_print 4 = .ok (.invokevirtual 98, 3) := by decide +kernel
theorem dX5_print_7 : decode cX5_print 7 = .ok (.iconst (-1), 1) := by decide +kernel
theorem dX5_print_8 : decode cX5_print 8 = .ok (.if_icmp .eq 6, 3) := by decide +kernel
theorem dX5_print_11 : decode cX5_print 11 = .ok (.bipush (-2), 2) := by decide +kernel
theorem dX5_print_13 : decode cX5_print 13 = .ok (.ireturn, 1) := by decide +kernel
theorem dX5_print_14 : decode cX5_print 14 = .ok (.aload_n 0, 1) := by decide +kernel
theorem dX5_print_15 : decode cX5_print 15 = .ok (.getfield 26, 3) := by decide +kernel
theorem dX5_print_18 : decode cX5_print 18 = .ok (.aload_n 0, 1) := by decide +kernel
theorem dX5_print_19 : decode cX5_print 19 = .ok (.getfield 33, 3) := by decide +kernel
theorem dX5_print_22 : decode cX5_print 22 = .ok (.invokevirtual 101, 3) := by decide +kernel
theorem dX5_print_25 : decode cX5_print 25 = .ok (.aload_n 0, 1) := by decide +kernel
theorem dX5_print_26 : decode cX5_print 26 = .ok (.getfield 10, 3) := by decide +kernel
theorem dX5_print_29 : decode cX5_print 29 = .ok (.aload_n 0, 1) := by decide +kernel
theorem dX5_print_30 : decode cX5_print 30 = .ok (.getfield 33, 3) := by decide +kernel
theorem dX5_print_33 : decode cX5_print 33 = .ok (.aload_n 0, 1) := by decide +kernel
theorem dX5_print_34 : decode cX5_print 34 = .ok (.getfield 33, 3) := by decide +kernel
theorem dX5_print_37 : decode cX5_print 37 = .ok (.getfield 105, 3) := by decide +kernel
theorem dX5_print_40 : decode cX5_print 40 = .ok (.invokevirtual 108, 3) := by decide +kernel
theorem dX5_print_43 : decode cX5_print 43 = .ok (.ifCond .eq 6, 3) := by decide +kernel
theorem dX5_print_46 : decode cX5_print 46 = .ok (.bipush (-2), 2) := by decide +kernel
theorem dX5_print_48 : decode cX5_print 48 = .ok (.ireturn, 1) := by decide +kernel
theorem dX5_print_49 : decode cX5_print 49 = .ok (.aload_n 0, 1) := by decide +kernel
theorem dX5_print_50 : decode cX5_print 50 = .ok (.getfield 10, 3) := by decide +kernel
theorem dX5_print_53 : decode cX5_print 53 = .ok (.getfield 112, 3) := by decide +kernel
theorem dX5_print_56 : decode cX5_print 56 = .ok (.iconst 4, 1) := by decide +kernel
theorem dX5_print_57 : decode cX5_print 57 = .ok (.if_icmp .lt 6, 3) := by decide +kernel
theorem dX5_print_60 : decode cX5_print 60 = .ok (.bipush (-3), 2) := by decide +kernel
theorem dX5_print_62 : decode cX5_print 62 = .ok (.ireturn, 1) := by decide +kernel
theorem dX5_print_63 : decode cX5_print 63 = .ok (.aload_n 0, 1) := by decide +kernel
theorem dX5_print_64 : decode cX5_print 64 = .ok (.invokevirtual 52, 3) := by decide +kernel
theorem dX5_print_67 : decode cX5_print 67 = .ok (.aload_n 0, 1) := by decide +kernel
theorem dX5_print_68 : decode cX5_print 68 = .ok (.getfield 10, 3) := by decide +kernel
theorem dX5_print_71 : decode cX5_print 71 = .ok (.aload_n 0, 1) := by decide +kernel
theorem dX5_print_72 : decode cX5_print 72 = .ok (.getfield 33, 3) := by decide +kernel
theorem dX5_print_75 : decode cX5_print 75 = .ok (.invokevirtual 115, 3) := by decide +kernel
theorem dX5_print_78 : decode cX5_print 78 = .ok (.aload_n 0, 1) := by decide +kernel
theorem dX5_print_79 : decode cX5_print 79 = .ok (.getfield 26, 3) := by decide +kernel
theorem dX5_print_82 : decode cX5_print 82 = .ok (.iconst 0, 1) := by decide +kernel
theorem dX5_print_83 : decode cX5_print 83 = .ok (.putfield 118, 3) := by decide +kernel
theorem dX5_print_86 : decode cX5_print 86 = .ok (.aload_n 0, 1) := by decide +kernel
theorem dX5_print_87 : decode cX5_print 87 = .ok (.getfield 10, 3) := by decide +kernel
theorem dX5_print_90 : decode cX5_print 90 = .ok (.getfield 112, 3) := by decide +kernel
theorem dX5_print_93 : decode cX5_print 93 = .ok (.iconst 1, 1) := by decide +kernel
theorem dX5_print_94 : decode cX5_print 94 = .ok (.isub, 1) := by decide +kernel
theorem dX5_print_95 : decode cX5_print 95 = .ok (.ireturn, 1) := by decide +kernel
theorem dX5_drop_0 : decode cX5_drop 0 = .ok (.aload_n 0, 1) := by decide +kernel
theorem dX5_drop_1 : decode cX5_drop 1 = .ok (.getfield 10, 3) := by decide +kernel
theorem dX5_drop_4 : decode cX5_drop 4 = .ok (.iload_n 1, 1) := by decide +kernel
theorem dX5_drop_5 : decode cX5_drop 5 = .ok (.invokevirtual 121, 3) := by decide +kernel
theorem dX5_drop_8 : decode cX5_drop 8 = .ok (.ifnonnull 5, 3) := by decide +kernel
theorem dX5_drop_11 : decode cX5_drop 11 = .ok (.iconst (-1), 1) := by decide +kernel
theorem dX5_drop_12 : decode cX5_drop 12 = .ok (.ireturn, 1) := by decide +kernel
theorem dX5_drop_13 : decode cX5_drop 13 = .ok (.aload_n 0, 1) := by decide +kernel
theorem dX5_drop_14 : decode cX5_drop 14 = .ok (.invokevirtual 52, 3) := by decide +kernel
theorem dX5_drop_17 : decode cX5_drop 17 = .ok (.aload_n 0, 1) := by decide +kernel
theorem dX5_drop_18 : decode cX5_drop 18 = .ok (.getfield 10, 3) := by decide +kernel
theorem dX5_drop_21 : decode cX5_drop 21 = .ok (.iload_n 1, 1) := by decide +kernel
theorem dX5_drop_22 : decode cX5_drop 22 = .ok (.invokevirtual 125, 3) := by decide +kernel
theorem dX5_drop_25 : decode cX5_drop 25 = .ok (.aload_n 0, 1) := by decide +kernel
theorem dX5_drop_26 : decode cX5_drop 26 = .ok (.getfield 10, 3) := by decide +kernel
theorem dX5_drop_29 : decode cX5_drop 29 = .ok (.getfield 112, 3) := by decide +kernel
theorem dX5_drop_32 : decode cX5_drop 32 = .ok (.ireturn, 1) := by decide +kernel
theorem dX5_sue_0 : decode cX5_sue 0 = .ok (.aload_n 0, 1) := by decide +kernel
theorem dX5_sue_1 : decode cX5_sue 1 = .ok (.getfield 10, 3) := by decide +kernel
theorem dX5_sue_4 : decode cX5_sue 4 = .ok (.iload_n 1, 1) := by decide +kernel
theorem dX5_sue_5 : decode cX5_sue 5 = .ok (.invokevirtual 121, 3) := by decide +kernel
theorem dX5_sue_8 : decode cX5_sue 8 = .ok (.astore_n 3, 1) := by decide +kernel
theorem dX5_sue_9 : decode cX5_sue 9 = .ok (.aload_n 3, 1) := by decide +kernel
theorem dX5_sue_10 : decode cX5_sue 10 = .ok (.ifnull 11, 3) := by decide +kernel
theorem dX5_sue_13 : decode cX5_sue 13 = .ok (.aload_n 3, 1) := by decide +kernel
theorem dX5_sue_14 : decode cX5_sue 14 = .ok (.iload_n 2, 1) := by decide +kernel
theorem dX5_sue_15 : decode cX5_sue 15 = .ok (.invokevirtual 129, 3) := by decide +kernel
theorem dX5_sue_18 : decode cX5_sue 18 = .ok (.ifCond .ne 5, 3) := by decide +kernel
theorem dX5_sue_21 : decode cX5_sue 21 = .ok (.iconst (-1), 1) := by decide +kernel
theorem dX5_sue_22 : decode cX5_sue 22 = .ok (.ireturn, 1) := by decide +kernel
theorem dX5_sue_23 : decode cX5_sue 23 = .ok (.aload_n 0, 1) := by decide +kernel
theorem dX5_sue_24 : decode cX5_sue 24 = .ok (.invokevirtual 52, 3) := by decide +kernel
theorem dX5_sue_27 : decode cX5_sue 27 = .ok (.aload_n 0, 1) := by decide +kernel
theorem dX5_sue_28 : decode cX5_sue 28 = .ok (.aload_n 3, 1) := by decide +kernel
theorem dX5_sue_29 : decode cX5_sue 29 = .ok (.iload_n 2, 1) := by decide +kernel
theorem dX5_sue_30 : decode cX5_sue 30 = .ok (.invokevirtual 132, 3) := by decide +kernel
theorem dX5_sue_33 : decode cX5_sue 33 = .ok (.ireturn, 1) := by decide +kernel
theorem dX5_stay_0 : decode cX5_stay 0 = .ok (.aload_n 0, 1) := by decide +kernel
theorem dX5_stay_1 : decode cX5_stay 1 = .ok (.getfield 10, 3) := by decide +kernel
theorem dX5_stay_4 : decode cX5_stay 4 = .ok (.iload_n 1, 1) := by decide +kernel
theorem dX5_stay_5 : decode cX5_stay 5 = .ok (.invokevirtual 121, 3) := by decide +kernel
theorem dX5_stay_8 : decode cX5_stay 8 = .ok (.astore_n 3, 1) := by decide +kernel
theorem dX5_stay_9 : decode cX5_stay 9 = .ok (.aload_n 3, 1) := by decide +kernel
theorem dX5_stay_10 : decode cX5_stay 10 = .ok (.ifnull 13, 3) := by decide +kernel
theorem dX5_stay_13 : decode cX5_stay 13 = .ok (.iload_n 2, 1) := by decide +kernel
theorem dX5_stay_14 : decode cX5_stay 14 = .ok (.iconst 0, 1) := by decide +kernel
theorem dX5_stay_15 : decode cX5_stay 15 = .ok (.bipush 30, 2) := by decide +kernel
theorem dX5_stay_17 : decode cX5_stay 17 = .ok (.invokestatic 48, 3) := by decide +kernel
theorem dX5_stay_20 : decode cX5_stay 20 = .ok (.ifCond .ne 5, 3) := by decide +kernel
theorem dX5_stay_23 : decode cX5_stay 23 = .ok (.iconst (-1), 1) := by decide +kernel
theorem dX5_stay_24 : decode cX5_stay 24 = .ok (.ireturn, 1) := by decide +kernel
theorem dX5_stay_25 : decode cX5_stay 25 = .ok (.aload_n 0, 1) := by decide +kernel
theorem dX5_stay_26 : decode cX5_stay 26 = .ok (.invokevirtual 52, 3) := by decide +kernel
theorem dX5_stay_29 : decode cX5_stay 29 = .ok (.aload_n 3, 1) := by decide +kernel
theorem dX5_stay_30 : decode cX5_stay 30 = .ok (.getfield 136, 3) := by decide +kernel
theorem dX5_stay_33 : decode cX5_stay 33 = .ok (.istore 4, 2) := by decide +kernel
theorem dX5_stay_35 : decode cX5_stay 35 = .ok (.aload_n 3, 1) := by decide +kernel
theorem dX5_stay_36 : decode cX5_stay 36 = .ok (.aload_n 0, 1) := by decide +kernel
theorem dX5_stay_37 : decode cX5_stay 37 = .ok (.getfield 10, 3) := by decide +kernel
theorem dX5_stay_40 : decode cX5_stay 40 = .ok (.getfield 139, 3) := by decide +kernel
theorem dX5_stay_43 : decode cX5_stay 43 = .ok (.iload_n 2, 1) := by decide +kernel
theorem dX5_stay_44 : decode cX5_stay 44 = .ok (.iadd, 1) := by decide +kernel
theorem dX5_stay_45 : decode cX5_stay 45 = .ok (.putfield 136, 3) := by decide +kernel
theorem dX5_stay_48 : decode cX5_stay 48 = .ok (.iload 4, 2) := by decide +kernel
theorem dX5_stay_50 : decode cX5_stay 50 = .ok (.ireturn, 1) := by decide +kernel
theorem dX5_day_0 : decode cX5_day 0 = .ok (.aload_n 0, 1) := by decide +kernel
theorem dX5_day_1 : decode cX5_day 1 = .ok (.invokevirtual 52, 3) := by decide +kernel
theorem dX5_day_4 : decode cX5_day 4 = .ok (.aload_n 0, 1) := by decide +kernel
theorem dX5_day_5 : decode cX5_day 5 = .ok (.getfield 10, 3) := by decide +kernel
theorem dX5_day_8 : decode cX5_day 8 = .ok (.dup, 1) := by decide +kernel
theorem dX5_day_9 : decode cX5_day 9 = .ok (.getfield 139, 3) := by decide +kernel
theorem dX5_day_12 : decode cX5_day 12 = .ok (.iconst 1, 1) := by decide +kernel
theorem dX5_day_13 : decode cX5_day 13 = .ok (.iadd, 1) := by decide +kernel
theorem dX5_day_14 : decode cX5_day 14 = .ok (.putfield 139, 3) := by decide +kernel
theorem dX5_day_17 : decode cX5_day 17 = .ok (.aload_n 0, 1) := by decide +kernel
theorem dX5_day_18 : decode cX5_day 18 = .ok (.getfield 10, 3) := by decide +kernel
theorem dX5_day_21 : decode cX5_day 21 = .ok (.getfield 139, 3) := by decide +kernel
theorem dX5_day_24 : decode cX5_day 24 = .ok (.ireturn, 1) := by decide +kernel
theorem dX5_append_0 : decode cX5_append 0 = .ok (.iload_n 1, 1) := by decide +kernel
theorem dX5_append_1 : decode cX5_append 1 = .ok (.bipush 33, 2) := by decide +kernel
theorem dX5_append_3 : decode cX5_append 3 = .ok (.bipush 126, 2) := by decide +kernel
theorem dX5_append_5 : decode cX5_append 5 = .ok (.invokestatic 48, 3) := by decide +kernel
theorem dX5_append_8 : decode cX5_append 8 = .ok (.ifCond .ne 5, 3) := by decide +kernel
theorem dX5_append_11 : decode cX5_append 11 = .ok (.iconst (-1), 1) := by decide +kernel
theorem dX5_append_12 : decode cX5_append 12 = .ok (.ireturn, 1) := by decide +kernel
theorem dX5_append_13 : decode cX5_append 13 = .ok (.aload_n 0, 1) := by decide +kernel
theorem dX5_append_14 : decode cX5_append 14 = .ok (.getfield 26, 3) := by decide +kernel
theorem dX5_append_17 : decode cX5_append 17 = .ok (.getfield 118, 3) := by decide +kernel
theorem dX5_append_20 : decode cX5_append 20 = .ok (.bipush 60, 2) := by decide +kernel
theorem dX5_append_22 : decode cX5_append 22 = .ok (.if_icmp .lt 6, 3) := by decide +kernel
theorem dX5_append_25 : decode cX5_append 25 = .ok (.bipush (-3), 2) := by decide +kernel
theorem dX5_append_27 : decode cX5_append 27 = .ok (.ireturn, 1) := by decide +kernel
theorem dX5_append_28 : decode cX5_append 28 = .ok (.aload_n 0, 1) := by decide +kernel
theorem dX5_append_29 : decode cX5_append 29 = .ok (.getfield 26, 3) := by decide +kernel
theorem dX5_append_32 : decode cX5_append 32 = .ok (.getfield 142, 3) := by decide +kernel
theorem dX5_append_35 : decode cX5_append 35 = .ok (.aload_n 0, 1) := by decide +kernel
theorem dX5_append_36 : decode cX5_append 36 = .ok (.getfield 26, 3) := by decide +kernel
theorem dX5_append_39 : decode cX5_append 39 = .ok (.getfield 118, 3) := by decide +kernel
theorem dX5_append_42 : decode cX5_append 42 = .ok (.iload_n 1, 1) := by decide +kernel
theorem dX5_append_43 : decode cX5_append 43 = .ok (.invokestatic 63, 3) := by decide +kernel
theorem dX5_append_46 : decode cX5_append 46 = .ok (.aload_n 0, 1) := by decide +kernel
theorem dX5_append_47 : decode cX5_append 47 = .ok (.getfield 26, 3) := by decide +kernel
theorem dX5_append_50 : decode cX5_append 50 = .ok (.dup, 1) := by decide +kernel
theorem dX5_append_51 : decode cX5_append 51 = .ok (.getfield 118, 3) := by decide +kernel
theorem dX5_append_54 : decode cX5_append 54 = .ok (.iconst 1, 1) := by decide +kernel
theorem dX5_append_55 : decode cX5_append 55 = .ok (.iadd, 1) := by decide +kernel
theorem dX5_append_56 : decode cX5_append 56 = .ok (.putfield 118, 3) := by decide +kernel
theorem dX5_append_59 : decode cX5_append 59 = .ok (.aload_n 0, 1) := by decide +kernel
theorem dX5_append_60 : decode cX5_append 60 = .ok (.getfield 26, 3) := by decide +kernel
theorem dX5_append_63 : decode cX5_append 63 = .ok (.getfield 118, 3) := by decide +kernel
theorem dX5_append_66 : decode cX5_append 66 = .ok (.ireturn, 1) := by decide +kernel
theorem dX5_clear_0 : decode cX5_clear 0 = .ok (.aload_n 0, 1) := by decide +kernel
theorem dX5_clear_1 : decode cX5_clear 1 = .ok (.getfield 26, 3) := by decide +kernel
theorem dX5_clear_4 : decode cX5_clear 4 = .ok (.getfield 118, 3) := by decide +kernel
theorem dX5_clear_7 : decode cX5_clear 7 = .ok (.istore_n 1, 1) := by decide +kernel
theorem dX5_clear_8 : decode cX5_clear 8 = .ok (.aload_n 0, 1) := by decide +kernel
theorem dX5_clear_9 : decode cX5_clear 9 = .ok (.getfield 26, 3) := by decide +kernel
theorem dX5_clear_12 : decode cX5_clear 12 = .ok (.iconst 0, 1) := by decide +kernel
theorem dX5_clear_13 : decode cX5_clear 13 = .ok (.putfield 118, 3) := by decide +kernel
theorem dX5_clear_16 : decode cX5_clear 16 = .ok (.iload_n 1, 1) := by decide +kernel
theorem dX5_clear_17 : decode cX5_clear 17 = .ok (.ireturn, 1) := by decide +kernel
theorem dX5_fault_0 : decode cX5_fault 0 = .ok (.iload_n 1, 1) := by decide +kernel
theorem dX5_fault_1 : decode cX5_fault 1 = .ok (.iconst 0, 1) := by decide +kernel
theorem dX5_fault_2 : decode cX5_fault 2 = .ok (.iconst 1, 1) := by decide +kernel
theorem dX5_fault_3 : decode cX5_fault 3 = .ok (.invokestatic 48, 3) := by decide +kernel
theorem dX5_fault_6 : decode cX5_fault 6 = .ok (.ifCond .ne 5, 3) := by decide +kernel
theorem dX5_fault_9 : decode cX5_fault 9 = .ok (.iconst (-1), 1) := by decide +kernel
theorem dX5_fault_10 : decode cX5_fault 10 = .ok (.ireturn, 1) := by decide +kernel
theorem dX5_fault_11 : decode cX5_fault 11 = .ok (.iload_n 1, 1) := by decide +kernel
theorem dX5_fault_12 : decode cX5_fault 12 = .ok (.ifCond .ne 13, 3) := by decide +kernel
theorem dX5_fault_15 : decode cX5_fault 15 = .ok (.aload_n 0, 1) := by decide +kernel
theorem dX5_fault_16 : decode cX5_fault 16 = .ok (.getfield 26, 3) := by decide +kernel
theorem dX5_fault_19 : decode cX5_fault 19 = .ok (.invokevirtual 98, 3) := by decide +kernel
theorem dX5_fault_22 : decode cX5_fault 22 = .ok (.goto 10, 3) := by decide +kernel
theorem dX5_fault_25 : decode cX5_fault 25 = .ok (.aload_n 0, 1) := by decide +kernel
theorem dX5_fault_26 : decode cX5_fault 26 = .ok (.getfield 26, 3) := by decide +kernel
theorem dX5_fault_29 : decode cX5_fault 29 = .ok (.invokevirtual 145, 3) := by decide +kernel
theorem dX5_fault_32 : decode cX5_fault 32 = .ok (.istore_n 2, 1) := by decide +kernel
theorem dX5_fault_33 : decode cX5_fault 33 = .ok (.iload_n 2, 1) := by decide +kernel
theorem dX5_fault_34 : decode cX5_fault 34 = .ok (.iconst (-1), 1) := by decide +kernel
theorem dX5_fault_35 : decode cX5_fault 35 = .ok (.if_icmp .ne 8, 3) := by decide +kernel
theorem dX5_fault_38 : decode cX5_fault 38 = .ok (.bipush (-4), 2) := by decide +kernel
theorem dX5_fault_40 : decode cX5_fault 40 = .ok (.goto 4, 3) := by decide +kernel
theorem dX5_fault_43 : decode cX5_fault 43 = .ok (.iload_n 2, 1) := by decide +kernel
theorem dX5_fault_44 : decode cX5_fault 44 = .ok (.ireturn, 1) := by decide +kernel
theorem dX5_plead_0 : decode cX5_plead 0 = .ok (.aload_n 0, 1) := by decide +kernel
theorem dX5_plead_1 : decode cX5_plead 1 = .ok (.getfield 26, 3) := by decide +kernel
theorem dX5_plead_4 : decode cX5_plead 4 = .ok (.invokevirtual 145, 3) := by decide +kernel
theorem dX5_plead_7 : decode cX5_plead 7 = .ok (.iconst (-1), 1) := by decide +kernel
theorem dX5_plead_8 : decode cX5_plead 8 = .ok (.if_icmp .eq 6, 3) := by decide +kernel
theorem dX5_plead_11 : decode cX5_plead 11 = .ok (.bipush (-2), 2) := by decide +kernel
theorem dX5_plead_13 : decode cX5_plead 13 = .ok (.ireturn, 1) := by decide +kernel
theorem dX5_plead_14 : decode cX5_plead 14 = .ok (.aload_n 0, 1) := by decide +kernel
theorem dX5_plead_15 : decode cX5_plead 15 = .ok (.invokevirtual 52, 3) := by decide +kernel
theorem dX5_plead_18 : decode cX5_plead 18 = .ok (.aload_n 0, 1) := by decide +kernel
theorem dX5_plead_19 : decode cX5_plead 19 = .ok (.iconst 0, 1) := by decide +kernel
theorem dX5_plead_20 : decode cX5_plead 20 = .ok (.putfield 148, 3) := by decide +kernel
theorem dX5_plead_23 : decode cX5_plead 23 = .ok (.iconst 0, 1) := by decide +kernel
theorem dX5_plead_24 : decode cX5_plead 24 = .ok (.istore_n 1, 1) := by decide +kernel
theorem dX5_plead_25 : decode cX5_plead 25 = .ok (.iconst 0, 1) := by decide +kernel
theorem dX5_plead_26 : decode cX5_plead 26 = .ok (.istore_n 2, 1) := by decide +kernel
theorem dX5_plead_27 : decode cX5_plead 27 = .ok (.iload_n 2, 1) := by decide +kernel
theorem dX5_plead_28 : decode cX5_plead 28 = .ok (.aload_n 0, 1) := by decide +kernel
theorem dX5_plead_29 : decode cX5_plead 29 = .ok (.getfield 26, 3) := by decide +kernel
theorem dX5_plead_32 : decode cX5_plead 32 = .ok (.getfield 118, 3) := by decide +kernel
theorem dX5_plead_35 : decode cX5_plead 35 = .ok (.if_icmp .ge 63, 3) := by decide +kernel
theorem dX5_plead_38 : decode cX5_plead 38 = .ok (.aload_n 0, 1) := by decide +kernel
theorem dX5_plead_39 : decode cX5_plead 39 = .ok (.getfield 148, 3) := by decide +kernel
theorem dX5_plead_42 : decode cX5_plead 42 = .ok (.ifCond .ne 56, 3) := by decide +kernel
theorem dX5_plead_45 : decode cX5_plead 45 = .ok (.aload_n 0, 1) := by decide +kernel
theorem dX5_plead_46 : decode cX5_plead 46 = .ok (.getfield 26, 3) := by decide +kernel
theorem dX5_plead_49 : decode cX5_plead 49 = .ok (.iload_n 2, 1) := by decide +kernel
theorem dX5_plead_50 : decode cX5_plead 50 = .ok (.invokevirtual 151, 3) := by decide +kernel
theorem dX5_plead_53 : decode cX5_plead 53 = .ok (.ifCond .eq 39, 3) := by decide +kernel
theorem dX5_plead_56 : decode cX5_plead 56 = .ok (.aload_n 0, 1) := by decide +kernel
theorem dX5_plead_57 : decode cX5_plead 57 = .ok (.iload_n 2, 1) := by decide +kernel
theorem dX5_plead_58 : decode cX5_plead 58 = .ok (.invokevirtual 154, 3) := by decide +kernel
theorem dX5_plead_61 : decode cX5_plead 61 = .ok (.istore_n 3, 1) := by decide +kernel
theorem dX5_plead_62 : decode cX5_plead 62 = .ok (.iload_n 3, 1) := by decide +kernel
theorem dX5_plead_63 : decode cX5_plead 63 = .ok (.ifCond .ne 9, 3) := by decide +kernel
theorem dX5_plead_66 : decode cX5_plead 66 = .ok (.iinc 1 1, 3) := by decide +kernel
theorem dX5_plead_69 : decode cX5_plead 69 = .ok (.goto 23, 3) := by decide +kernel
theorem dX5_plead_72 : decode cX5_plead 72 = .ok (.aload_n 0, 1) := by decide +kernel
theorem dX5_plead_73 : decode cX5_plead 73 = .ok (.iconst 1, 1) := by decide +kernel
theorem dX5_plead_74 : decode cX5_plead 74 = .ok (.putfield 148, 3) := by decide +kernel
theorem dX5_plead_77 : decode cX5_plead 77 = .ok (.aload_n 0, 1) := by decide +kernel
theorem dX5_plead_78 : decode cX5_plead 78 = .ok (.iload_n 3, 1) := by decide +kernel
theorem dX5_plead_79 : decode cX5_plead 79 = .ok (.putfield 158, 3) := by decide +kernel
theorem dX5_plead_82 : decode cX5_plead 82 = .ok (.aload_n 0, 1) := by decide +kernel
theorem dX5_plead_83 : decode cX5_plead 83 = .ok (.iload_n 1, 1) := by decide +kernel
theorem dX5_plead_84 : decode cX5_plead 84 = .ok (.putfield 161, 3) := by decide +kernel
theorem dX5_plead_87 : decode cX5_plead 87 = .ok (.aload_n 0, 1) := by decide +kernel
theorem dX5_plead_88 : decode cX5_plead 88 = .ok (.iload_n 2, 1) := by decide +kernel
theorem dX5_plead_89 : decode cX5_plead 89 = .ok (.putfield 164, 3) := by decide +kernel
theorem dX5_plead_92 : decode cX5_plead 92 = .ok (.iinc 2 1, 3) := by decide +kernel
theorem dX5_plead_95 : decode cX5_plead 95 = .ok (.goto (-68), 3) := by decide +kernel
theorem dX5_plead_98 : decode cX5_plead 98 = .ok (.aload_n 0, 1) := by decide +kernel
theorem dX5_plead_99 : decode cX5_plead 99 = .ok (.getfield 26, 3) := by decide +kernel
theorem dX5_plead_102 : decode cX5_plead 102 = .ok (.iconst 0, 1) := by decide +kernel
theorem dX5_plead_103 : decode cX5_plead 103 = .ok (.putfield 118, 3) := by decide +kernel
theorem dX5_plead_106 : decode cX5_plead 106 = .ok (.iload_n 1, 1) := by decide +kernel
theorem dX5_plead_107 : decode cX5_plead 107 = .ok (.ireturn, 1) := by decide +kernel
theorem dX5_why_0 : decode cX5_why 0 = .ok (.iload_n 1, 1) := by decide +kernel
theorem dX5_why_1 : decode cX5_why 1 = .ok (.iconst 0, 1) := by decide +kernel
theorem dX5_why_2 : decode cX5_why 2 = .ok (.iconst 2, 1) := by decide +kernel
theorem dX5_why_3 : decode cX5_why 3 = .ok (.invokestatic 48, 3) := by decide +kernel
theorem dX5_why_6 : decode cX5_why 6 = .ok (.ifCond .ne 5, 3) := by decide +kernel
theorem dX5_why_9 : decode cX5_why 9 = .ok (.iconst (-1), 1) := by decide +kernel
theorem dX5_why_10 : decode cX5_why 10 = .ok (.ireturn, 1) := by decide +kernel
theorem dX5_why_11 : decode cX5_why 11 = .ok (.aload_n 0, 1) := by decide +kernel
theorem dX5_why_12 : decode cX5_why 12 = .ok (.getfield 148, 3) := by decide +kernel
theorem dX5_why_15 : decode cX5_why 15 = .ok (.ifCond .ne 6, 3) := by decide +kernel
theorem dX5_why_18 : decode cX5_why 18 = .ok (.bipush (-4), 2) := by decide +kernel
theorem dX5_why_20 : decode cX5_why 20 = .ok (.ireturn, 1) := by decide +kernel
theorem dX5_why_21 : decode cX5_why 21 = .ok (.iload_n 1, 1) := by decide +kernel
theorem dX5_why_22 : decode cX5_why 22 = .ok (.lookupswitch 36 #[(0, 26), (1, 31)], 26) := by decide +kernel
theorem dX5_why_48 : decode cX5_why 48 = .ok (.aload_n 0, 1) := by decide +kernel
theorem dX5_why_49 : decode cX5_why 49 = .ok (.getfield 158, 3) := by decide +kernel
theorem dX5_why_52 : decode cX5_why 52 = .ok (.ireturn, 1) := by decide +kernel
theorem dX5_why_53 : decode cX5_why 53 = .ok (.aload_n 0, 1) := by decide +kernel
theorem dX5_why_54 : decode cX5_why 54 = .ok (.getfield 161, 3) := by decide +kernel
theorem dX5_why_57 : decode cX5_why 57 = .ok (.ireturn, 1) := by decide +kernel
theorem dX5_why_58 : decode cX5_why 58 = .ok (.aload_n 0, 1) := by decide +kernel
theorem dX5_why_59 : decode cX5_why 59 = .ok (.getfield 164, 3) := by decide +kernel
theorem dX5_why_62 : decode cX5_why 62 = .ok (.ireturn, 1) := by decide +kernel
theorem dX5_sign_0 : decode cX5_sign 0 = .ok (.aload_n 0, 1) := by decide +kernel
theorem dX5_sign_1 : decode cX5_sign 1 = .ok (.getfield 10, 3) := by decide +kernel
theorem dX5_sign_4 : decode cX5_sign 4 = .ok (.iload_n 1, 1) := by decide +kernel
theorem dX5_sign_5 : decode cX5_sign 5 = .ok (.invokevirtual 121, 3) := by decide +kernel
theorem dX5_sign_8 : decode cX5_sign 8 = .ok (.astore_n 3, 1) := by decide +kernel
theorem dX5_sign_9 : decode cX5_sign 9 = .ok (.aload_n 3, 1) := by decide +kernel
theorem dX5_sign_10 : decode cX5_sign 10 = .ok (.ifnull 7, 3) := by decide +kernel
theorem dX5_sign_13 : decode cX5_sign 13 = .ok (.iload_n 2, 1) := by decide +kernel
theorem dX5_sign_14 : decode cX5_sign 14 = .ok (.ifCond .ge 5, 3) := by decide +kernel
theorem dX5_sign_17 : decode cX5_sign 17 = .ok (.iconst (-1), 1) := by decide +kernel
theorem dX5_sign_18 : decode cX5_sign 18 = .ok (.ireturn, 1) := by decide +kernel
theorem dX5_sign_19 : decode cX5_sign 19 = .ok (.aload_n 3, 1) := by decide +kernel
theorem dX5_sign_20 : decode cX5_sign 20 = .ok (.iload_n 2, 1) := by decide +kernel
theorem dX5_sign_21 : decode cX5_sign 21 = .ok (.invokevirtual 167, 3) := by decide +kernel
theorem dX5_sign_24 : decode cX5_sign 24 = .ok (.ireturn, 1) := by decide +kernel
theorem dX5_edition_0 : decode cX5_edition 0 = .ok (.aload_n 0, 1) := by decide +kernel
theorem dX5_edition_1 : decode cX5_edition 1 = .ok (.getfield 10, 3) := by decide +kernel
theorem dX5_edition_4 : decode cX5_edition 4 = .ok (.iload_n 1, 1) := by decide +kernel
theorem dX5_edition_5 : decode cX5_edition 5 = .ok (.invokevirtual 121, 3) := by decide +kernel
theorem dX5_edition_8 : decode cX5_edition 8 = .ok (.astore_n 3, 1) := by decide +kernel
theorem dX5_edition_9 : decode cX5_edition 9 = .ok (.aload_n 3, 1) := by decide +kernel
theorem dX5_edition_10 : decode cX5_edition 10 = .ok (.ifnonnull 5, 3) := by decide +kernel
theorem dX5_edition_13 : decode cX5_edition 13 = .ok (.iconst (-1), 1) := by decide +kernel
theorem dX5_edition_14 : decode cX5_edition 14 = .ok (.ireturn, 1) := by decide +kernel
theorem dX5_edition_15 : decode cX5_edition 15 = .ok (.aload_n 0, 1) := by decide +kernel
theorem dX5_edition_16 : decode cX5_edition 16 = .ok (.getfield 40, 3) := by decide +kernel
theorem dX5_edition_19 : decode cX5_edition 19 = .ok (.aload_n 0, 1) := by decide +kernel
theorem dX5_edition_20 : decode cX5_edition 20 = .ok (.getfield 10, 3) := by decide +kernel
theorem dX5_edition_23 : decode cX5_edition 23 = .ok (.aload_n 3, 1) := by decide +kernel
theorem dX5_edition_24 : decode cX5_edition 24 = .ok (.invokevirtual 170, 3) := by decide +kernel
theorem dX5_edition_27 : decode cX5_edition 27 = .ok (.iload_n 2, 1) := by decide +kernel
theorem dX5_edition_28 : decode cX5_edition 28 = .ok (.tableswitch 142 0 9 #[56, 61, 66, 71, 79, 91, 103, 115, 132, 137], 56) := by decide +kernel
theorem dX5_edition_84 : decode cX5_edition 84 = .ok (.aload_n 3, 1) := by decide +kernel
theorem dX5_edition_85 : decode cX5_edition 85 = .ok (.getfield 174, 3) := by decide +kernel
theorem dX5_edition_88 : decode cX5_edition 88 = .ok (.ireturn, 1) := by decide +kernel
theorem dX5_edition_89 : decode cX5_edition 89 = .ok (.aload_n 3, 1) := by decide +kernel
theorem dX5_edition_90 : decode cX5_edition 90 = .ok (.getfield 105, 3) := by decide +kernel
theorem dX5_edition_93 : decode cX5_edition 93 = .ok (.ireturn, 1) := by decide +kernel
theorem dX5_edition_94 : decode cX5_edition 94 = .ok (.aload_n 3, 1) := by decide +kernel
theorem dX5_edition_95 : decode cX5_edition 95 = .ok (.invokevirtual 177, 3) := by decide +kernel
theorem dX5_edition_98 : decode cX5_edition 98 = .ok (.ireturn, 1) := by decide +kernel
theorem dX5_edition_99 : decode cX5_edition 99 = .ok (.aload_n 0, 1) := by decide +kernel
theorem dX5_edition_100 : decode cX5_edition 100 = .ok (.getfield 40, 3) := by decide +kernel
theorem dX5_edition_103 : decode cX5_edition 103 = .ok (.invokevirtual 180, 3) := by decide +kernel
theorem dX5_edition_106 : decode cX5_edition 106 = .ok (.ireturn, 1) := by decide +kernel
theorem dX5_edition_107 : decode cX5_edition 107 = .ok (.aload_n 0, 1) := by decide +kernel
theorem dX5_edition_108 : decode cX5_edition 108 = .ok (.getfield 40, 3) := by decide +kernel
theorem dX5_edition_111 : decode cX5_edition 111 = .ok (.aload_n 3, 1) := by decide +kernel
theorem dX5_edition_112 : decode cX5_edition 112 = .ok (.getfield 105, 3) := by decide +kernel
theorem dX5_edition_115 : decode cX5_edition 115 = .ok (.invokevirtual 183, 3) := by decide +kernel
theorem dX5_edition_118 : decode cX5_edition 118 = .ok (.ireturn, 1) := by decide +kernel
theorem dX5_edition_119 : decode cX5_edition 119 = .ok (.aload_n 0, 1) := by decide +kernel
theorem dX5_edition_120 : decode cX5_edition 120 = .ok (.getfield 40, 3) := by decide +kernel
theorem dX5_edition_123 : decode cX5_edition 123 = .ok (.aload_n 3, 1) := by decide +kernel
theorem dX5_edition_124 : decode cX5_edition 124 = .ok (.getfield 105, 3) := by decide +kernel
theorem dX5_edition_127 : decode cX5_edition 127 = .ok (.invokevirtual 186, 3) := by decide +kernel
theorem dX5_edition_130 : decode cX5_edition 130 = .ok (.ireturn, 1) := by decide +kernel
theorem dX5_edition_131 : decode cX5_edition 131 = .ok (.aload_n 0, 1) := by decide +kernel
theorem dX5_edition_132 : decode cX5_edition 132 = .ok (.getfield 40, 3) := by decide +kernel
theorem dX5_edition_135 : decode cX5_edition 135 = .ok (.aload_n 3, 1) := by decide +kernel
theorem dX5_edition_136 : decode cX5_edition 136 = .ok (.getfield 105, 3) := by decide +kernel
theorem dX5_edition_139 : decode cX5_edition 139 = .ok (.invokevirtual 189, 3) := by decide +kernel
theorem dX5_edition_142 : decode cX5_edition 142 = .ok (.ireturn, 1) := by decide +kernel
theorem dX5_edition_143 : decode cX5_edition 143 = .ok (.aload_n 0, 1) := by decide +kernel
theorem dX5_edition_144 : decode cX5_edition 144 = .ok (.getfield 10, 3) := by decide +kernel
theorem dX5_edition_147 : decode cX5_edition 147 = .ok (.aload_n 3, 1) := by decide +kernel
theorem dX5_edition_148 : decode cX5_edition 148 = .ok (.invokevirtual 192, 3) := by decide +kernel
theorem dX5_edition_151 : decode cX5_edition 151 = .ok (.ifCond .eq 7, 3) := by decide +kernel
theorem dX5_edition_154 : decode cX5_edition 154 = .ok (.iconst 1, 1) := by decide +kernel
theorem dX5_edition_155 : decode cX5_edition 155 = .ok (.goto 4, 3) := by decide +kernel
theorem dX5_edition_158 : decode cX5_edition 158 = .ok (.iconst 0, 1) := by decide +kernel
theorem dX5_edition_159 : decode cX5_edition 159 = .ok (.ireturn, 1) := by decide +kernel
theorem dX5_edition_160 : decode cX5_edition 160 = .ok (.aload_n 3, 1) := by decide +kernel
theorem dX5_edition_161 : decode cX5_edition 161 = .ok (.getfield 136, 3) := by decide +kernel
theorem dX5_edition_164 : decode cX5_edition 164 = .ok (.ireturn, 1) := by decide +kernel
theorem dX5_edition_165 : decode cX5_edition 165 = .ok (.aload_n 3, 1) := by decide +kernel
theorem dX5_edition_166 : decode cX5_edition 166 = .ok (.getfield 196, 3) := by decide +kernel
theorem dX5_edition_169 : decode cX5_edition 169 = .ok (.ireturn, 1) := by decide +kernel
theorem dX5_edition_170 : decode cX5_edition 170 = .ok (.iconst (-1), 1) := by decide +kernel
theorem dX5_edition_171 : decode cX5_edition 171 = .ok (.ireturn, 1) := by decide +kernel
theorem dX5_gap_0 : decode cX5_gap 0 = .ok (.aload_n 0, 1) := by decide +kernel
theorem dX5_gap_1 : decode cX5_gap 1 = .ok (.getfield 10, 3) := by decide +kernel
theorem dX5_gap_4 : decode cX5_gap 4 = .ok (.iload_n 1, 1) := by decide +kernel
theorem dX5_gap_5 : decode cX5_gap 5 = .ok (.invokevirtual 121, 3) := by decide +kernel
theorem dX5_gap_8 : decode cX5_gap 8 = .ok (.astore 4, 2) := by decide +kernel
theorem dX5_gap_10 : decode cX5_gap 10 = .ok (.aload 4, 2) := by decide +kernel
theorem dX5_gap_12 : decode cX5_gap 12 = .ok (.ifnull 12, 3) := by decide +kernel
theorem dX5_gap_15 : decode cX5_gap 15 = .ok (.aload 4, 2) := by decide +kernel
theorem dX5_gap_17 : decode cX5_gap 17 = .ok (.iload_n 2, 1) := by decide +kernel
theorem dX5_gap_18 : decode cX5_gap 18 = .ok (.invokevirtual 129, 3) := by decide +kernel
theorem dX5_gap_21 : decode cX5_gap 21 = .ok (.ifCond .ne 5, 3) := by decide +kernel
theorem dX5_gap_24 : decode cX5_gap 24 = .ok (.iconst (-1), 1) := by decide +kernel
theorem dX5_gap_25 : decode cX5_gap 25 = .ok (.ireturn, 1) := by decide +kernel
theorem dX5_gap_26 : decode cX5_gap 26 = .ok (.iload_n 3, 1) := by decide +kernel
theorem dX5_gap_27 : decode cX5_gap 27 = .ok (.tableswitch 110 0 3 #[29, 44, 55, 66], 29) := by decide +kernel
theorem dX5_gap_56 : decode cX5_gap 56 = .ok (.aload 4, 2) := by decide +kernel
theorem dX5_gap_58 : decode cX5_gap 58 = .ok (.iload_n 2, 1) := by decide +kernel
theorem dX5_gap_59 : decode cX5_gap 59 = .ok (.invokevirtual 199, 3) := by decide +kernel
theorem dX5_gap_62 : decode cX5_gap 62 = .ok (.ifCond .eq 7, 3) := by decide +kernel
theorem dX5_gap_65 : decode cX5_gap 65 = .ok (.iconst 1, 1) := by decide +kernel
theorem dX5_gap_66 : decode cX5_gap 66 = .ok (.goto 4, 3) := by decide +kernel
theorem dX5_gap_69 : decode cX5_gap 69 = .ok (.iconst 0, 1) := by decide +kernel
theorem dX5_gap_70 : decode cX5_gap 70 = .ok (.ireturn, 1) := by decide +kernel
theorem dX5_gap_71 : decode cX5_gap 71 = .ok (.aload_n 0, 1) := by decide +kernel
theorem dX5_gap_72 : decode cX5_gap 72 = .ok (.getfield 10, 3) := by decide +kernel
theorem dX5_gap_75 : decode cX5_gap 75 = .ok (.aload 4, 2) := by decide +kernel
theorem dX5_gap_77 : decode cX5_gap 77 = .ok (.iload_n 2, 1) := by decide +kernel
theorem dX5_gap_78 : decode cX5_gap 78 = .ok (.invokevirtual 202, 3) := by decide +kernel
theorem dX5_gap_81 : decode cX5_gap 81 = .ok (.ireturn, 1) := by decide +kernel
theorem dX5_gap_82 : decode cX5_gap 82 = .ok (.aload_n 0, 1) := by decide +kernel
theorem dX5_gap_83 : decode cX5_gap 83 = .ok (.getfield 10, 3) := by decide +kernel
theorem dX5_gap_86 : decode cX5_gap 86 = .ok (.aload 4, 2) := by decide +kernel
theorem dX5_gap_88 : decode cX5_gap 88 = .ok (.iload_n 2, 1) := by decide +kernel
theorem dX5_gap_89 : decode cX5_gap 89 = .ok (.invokevirtual 205, 3) := by decide +kernel
theorem dX5_gap_92 : decode cX5_gap 92 = .ok (.ireturn, 1) := by decide +kernel
theorem dX5_gap_93 : decode cX5_gap 93 = .ok (.aload_n 0, 1) := by decide +kernel
theorem dX5_gap_94 : decode cX5_gap 94 = .ok (.getfield 40, 3) := by decide +kernel
theorem dX5_gap_97 : decode cX5_gap 97 = .ok (.aload_n 0, 1) := by decide +kernel
theorem dX5_gap_98 : decode cX5_gap 98 = .ok (.getfield 10, 3) := by decide +kernel
theorem dX5_gap_101 : decode cX5_gap 101 = .ok (.aload 4, 2) := by decide +kernel
theorem dX5_gap_103 : decode cX5_gap 103 = .ok (.invokevirtual 170, 3) := by decide +kernel
theorem dX5_gap_106 : decode cX5_gap 106 = .ok (.sipush 1000, 3) := by decide +kernel
theorem dX5_gap_109 : decode cX5_gap 109 = .ok (.aload_n 0, 1) := by decide +kernel
theorem dX5_gap_110 : decode cX5_gap 110 = .ok (.getfield 40, 3) := by decide +kernel
theorem dX5_gap_113 : decode cX5_gap 113 = .ok (.aload 4, 2) := by decide +kernel
theorem dX5_gap_115 : decode cX5_gap 115 = .ok (.iload_n 2, 1) := by decide +kernel
theorem dX5_gap_116 : decode cX5_gap 116 = .ok (.invokevirtual 208, 3) := by decide +kernel
theorem dX5_gap_119 : decode cX5_gap 119 = .ok (.invokevirtual 189, 3) := by decide +kernel
theorem dX5_gap_122 : decode cX5_gap 122 = .ok (.iadd, 1) := by decide +kernel
theorem dX5_gap_123 : decode cX5_gap 123 = .ok (.aload_n 0, 1) := by decide +kernel
theorem dX5_gap_124 : decode cX5_gap 124 = .ok (.getfield 40, 3) := by decide +kernel
theorem dX5_gap_127 : decode cX5_gap 127 = .ok (.aload 4, 2) := by decide +kernel
theorem dX5_gap_129 : decode cX5_gap 129 = .ok (.getfield 105, 3) := by decide +kernel
theorem dX5_gap_132 : decode cX5_gap 132 = .ok (.invokevirtual 189, 3) := by decide +kernel
theorem dX5_gap_135 : decode cX5_gap 135 = .ok (.isub, 1) := by decide +kernel
theorem dX5_gap_136 : decode cX5_gap 136 = .ok (.ireturn, 1) := by decide +kernel
theorem dX5_gap_137 : decode cX5_gap 137 = .ok (.iconst (-1), 1) := by decide +kernel
theorem dX5_gap_138 : decode cX5_gap 138 = .ok (.ireturn, 1) := by decide +kernel
theorem dX5_ruling_0 : decode cX5_ruling 0 = .ok (.aload_n 0, 1) := by decide +kernel
theorem dX5_ruling_1 : decode cX5_ruling 1 = .ok (.getfield 10, 3) := by decide +kernel
theorem dX5_ruling_4 : decode cX5_ruling 4 = .ok (.iload_n 1, 1) := by decide +kernel
theorem dX5_ruling_5 : decode cX5_ruling 5 = .ok (.invokevirtual 81, 3) := by decide +kernel
theorem dX5_ruling_8 : decode cX5_ruling 8 = .ok (.astore_n 3, 1) := by decide +kernel
theorem dX5_ruling_9 : decode cX5_ruling 9 = .ok (.aload_n 3, 1) := by decide +kernel
theorem dX5_ruling_10 : decode cX5_ruling 10 = .ok (.ifnonnull 5, 3) := by decide +kernel
theorem dX5_ruling_13 : decode cX5_ruling 13 = .ok (.iconst (-1), 1) := by decide +kernel
theorem dX5_ruling_14 : decode cX5_ruling 14 = .ok (.ireturn, 1) := by decide +kernel
theorem dX5_ruling_15 : decode cX5_ruling 15 = .ok (.iload_n 2, 1) := by decide +kernel
theorem dX5_ruling_16 : decode cX5_ruling 16 = .ok (.tableswitch 146 0 8 #[52, 57, 62, 75, 80, 98, 111, 128, 137], 52) := by decide +kernel
theorem dX5_ruling_68 : decode cX5_ruling 68 = .ok (.aload_n 3, 1) := by decide +kernel
theorem dX5_ruling_69 : decode cX5_ruling 69 = .ok (.getfield 211, 3) := by decide +kernel
theorem dX5_ruling_72 : decode cX5_ruling 72 = .ok (.ireturn, 1) := by decide +kernel
theorem dX5_ruling_73 : decode cX5_ruling 73 = .ok (.aload_n 3, 1) := by decide +kernel
theorem dX5_ruling_74 : decode cX5_ruling 74 = .ok (.getfield 214, 3) := by decide +kernel
theorem dX5_ruling_77 : decode cX5_ruling 77 = .ok (.ireturn, 1) := by decide +kernel
theorem dX5_ruling_78 : decode cX5_ruling 78 = .ok (.aload_n 3, 1) := by decide +kernel
theorem dX5_ruling_79 : decode cX5_ruling 79 = .ok (.getfield 217, 3) := by decide +kernel
theorem dX5_ruling_82 : decode cX5_ruling 82 = .ok (.ifCond .eq 7, 3) := by decide +kernel
theorem dX5_ruling_85 : decode cX5_ruling 85 = .ok (.iconst 1, 1) := by decide +kernel
theorem dX5_ruling_86 : decode cX5_ruling 86 = .ok (.goto 4, 3) := by decide +kernel
theorem dX5_ruling_89 : decode cX5_ruling 89 = .ok (.iconst 0, 1) := by decide +kernel
theorem dX5_ruling_90 : decode cX5_ruling 90 = .ok (.ireturn, 1) := by decide +kernel
theorem dX5_ruling_91 : decode cX5_ruling 91 = .ok (.aload_n 3, 1) := by decide +kernel
theorem dX5_ruling_92 : decode cX5_ruling 92 = .ok (.getfield 220, 3) := by decide +kernel
theorem dX5_ruling_95 : decode cX5_ruling 95 = .ok (.ireturn, 1) := by decide +kernel
theorem dX5_ruling_96 : decode cX5_ruling 96 = .ok (.aload_n 3, 1) := by decide +kernel
theorem dX5_ruling_97 : decode cX5_ruling 97 = .ok (.getfield 223, 3) := by decide +kernel
theorem dX5_ruling_100 : decode cX5_ruling 100 = .ok (.iconst (-1), 1) := by decide +kernel
theorem dX5_ruling_101 : decode cX5_ruling 101 = .ok (.if_icmp .ne 8, 3) := by decide +kernel
theorem dX5_ruling_104 : decode cX5_ruling 104 = .ok (.bipush (-4), 2) := by decide +kernel
theorem dX5_ruling_106 : decode cX5_ruling 106 = .ok (.goto 7, 3) := by decide +kernel
theorem dX5_ruling_109 : decode cX5_ruling 109 = .ok (.aload_n 3, 1) := by decide +kernel
theorem dX5_ruling_110 : decode cX5_ruling 110 = .ok (.getfield 223, 3) := by decide +kernel
theorem dX5_ruling_113 : decode cX5_ruling 113 = .ok (.ireturn, 1) := by decide +kernel
theorem dX5_ruling_114 : decode cX5_ruling 114 = .ok (.aload_n 3, 1) := by decide +kernel
theorem dX5_ruling_115 : decode cX5_ruling 115 = .ok (.getfield 226, 3) := by decide +kernel
theorem dX5_ruling_118 : decode cX5_ruling 118 = .ok (.ifCond .eq 7, 3) := by decide +kernel
theorem dX5_ruling_121 : decode cX5_ruling 121 = .ok (.iconst 1, 1) := by decide +kernel
theorem dX5_ruling_122 : decode cX5_ruling 122 = .ok (.goto 4, 3) := by decide +kernel
theorem dX5_ruling_125 : decode cX5_ruling 125 = .ok (.iconst 0, 1) := by decide +kernel
theorem dX5_ruling_126 : decode cX5_ruling 126 = .ok (.ireturn, 1) := by decide +kernel
theorem dX5_ruling_127 : decode cX5_ruling 127 = .ok (.aload_n 0, 1) := by decide +kernel
theorem dX5_ruling_128 : decode cX5_ruling 128 = .ok (.getfield 10, 3) := by decide +kernel
theorem dX5_ruling_131 : decode cX5_ruling 131 = .ok (.iload_n 1, 1) := by decide +kernel
theorem dX5_ruling_132 : decode cX5_ruling 132 = .ok (.invokevirtual 229, 3) := by decide +kernel
theorem dX5_ruling_135 : decode cX5_ruling 135 = .ok (.ifCond .eq 7, 3) := by decide +kernel
theorem dX5_ruling_138 : decode cX5_ruling 138 = .ok (.iconst 1, 1) := by decide +kernel
theorem dX5_ruling_139 : decode cX5_ruling 139 = .ok (.goto 4, 3) := by decide +kernel
theorem dX5_ruling_142 : decode cX5_ruling 142 = .ok (.iconst 0, 1) := by decide +kernel
theorem dX5_ruling_143 : decode cX5_ruling 143 = .ok (.ireturn, 1) := by decide +kernel
theorem dX5_ruling_144 : decode cX5_ruling 144 = .ok (.aload_n 0, 1) := by decide +kernel
theorem dX5_ruling_145 : decode cX5_ruling 145 = .ok (.getfield 10, 3) := by decide +kernel
theorem dX5_ruling_148 : decode cX5_ruling 148 = .ok (.iload_n 1, 1) := by decide +kernel
theorem dX5_ruling_149 : decode cX5_ruling 149 = .ok (.invokevirtual 232, 3) := by decide +kernel
theorem dX5_ruling_152 : decode cX5_ruling 152 = .ok (.ireturn, 1) := by decide +kernel
theorem dX5_ruling_153 : decode cX5_ruling 153 = .ok (.aload_n 0, 1) := by decide +kernel
theorem dX5_ruling_154 : decode cX5_ruling 154 = .ok (.getfield 10, 3) := by decide +kernel
theorem dX5_ruling_157 : decode cX5_ruling 157 = .ok (.iload_n 1, 1) := by decide +kernel
theorem dX5_ruling_158 : decode cX5_ruling 158 = .ok (.invokevirtual 235, 3) := by decide +kernel
theorem dX5_ruling_161 : decode cX5_ruling 161 = .ok (.ireturn, 1) := by decide +kernel
theorem dX5_ruling_162 : decode cX5_ruling 162 = .ok (.iconst (-1), 1) := by decide +kernel
theorem dX5_ruling_163 : decode cX5_ruling 163 = .ok (.ireturn, 1) := by decide +kernel
theorem dX5_whyNot_0 : decode cX5_whyNot 0 = .ok (.aload_n 0, 1) := by decide +kernel
theorem dX5_whyNot_1 : decode cX5_whyNot 1 = .ok (.getfield 10, 3) := by decide +kernel
theorem dX5_whyNot_4 : decode cX5_whyNot 4 = .ok (.iload_n 1, 1) := by decide +kernel
theorem dX5_whyNot_5 : decode cX5_whyNot 5 = .ok (.invokevirtual 121, 3) := by decide +kernel
theorem dX5_whyNot_8 : decode cX5_whyNot 8 = .ok (.astore_n 3, 1) := by decide +kernel
theorem dX5_whyNot_9 : decode cX5_whyNot 9 = .ok (.aload_n 3, 1) := by decide +kernel
theorem dX5_whyNot_10 : decode cX5_whyNot 10 = .ok (.ifnull 11, 3) := by decide +kernel
theorem dX5_whyNot_13 : decode cX5_whyNot 13 = .ok (.aload_n 3, 1) := by decide +kernel
theorem dX5_whyNot_14 : decode cX5_whyNot 14 = .ok (.iload_n 2, 1) := by decide +kernel
theorem dX5_whyNot_15 : decode cX5_whyNot 15 = .ok (.invokevirtual 129, 3) := by decide +kernel
theorem dX5_whyNot_18 : decode cX5_whyNot 18 = .ok (.ifCond .ne 5, 3) := by decide +kernel
theorem dX5_whyNot_21 : decode cX5_whyNot 21 = .ok (.iconst (-1), 1) := by decide +kernel
theorem dX5_whyNot_22 : decode cX5_whyNot 22 = .ok (.ireturn, 1) := by decide +kernel
theorem dX5_whyNot_23 : decode cX5_whyNot 23 = .ok (.aload_n 0, 1) := by decide +kernel
theorem dX5_whyNot_24 : decode cX5_whyNot 24 = .ok (.getfield 40, 3) := by decide +kernel
theorem dX5_whyNot_27 : decode cX5_whyNot 27 = .ok (.aload_n 0, 1) := by decide +kernel
theorem dX5_whyNot_28 : decode cX5_whyNot 28 = .ok (.getfield 10, 3) := by decide +kernel
theorem dX5_whyNot_31 : decode cX5_whyNot 31 = .ok (.aload_n 3, 1) := by decide +kernel
theorem dX5_whyNot_32 : decode cX5_whyNot 32 = .ok (.invokevirtual 170, 3) := by decide +kernel
theorem dX5_whyNot_35 : decode cX5_whyNot 35 = .ok (.aload_n 0, 1) := by decide +kernel
theorem dX5_whyNot_36 : decode cX5_whyNot 36 = .ok (.aload_n 3, 1) := by decide +kernel
theorem dX5_whyNot_37 : decode cX5_whyNot 37 = .ok (.iload_n 2, 1) := by decide +kernel
theorem dX5_whyNot_38 : decode cX5_whyNot 38 = .ok (.invokevirtual 238, 3) := by decide +kernel
theorem dX5_whyNot_41 : decode cX5_whyNot 41 = .ok (.ireturn, 1) := by decide +kernel
theorem dX5_best_0 : decode cX5_best 0 = .ok (.aload_n 0, 1) := by decide +kernel
theorem dX5_best_1 : decode cX5_best 1 = .ok (.getfield 10, 3) := by decide +kernel
theorem dX5_best_4 : decode cX5_best 4 = .ok (.iload_n 1, 1) := by decide +kernel
theorem dX5_best_5 : decode cX5_best 5 = .ok (.invokevirtual 121, 3) := by decide +kernel
theorem dX5_best_8 : decode cX5_best 8 = .ok (.astore 4, 2) := by decide +kernel
theorem dX5_best_10 : decode cX5_best 10 = .ok (.aload 4, 2) := by decide +kernel
theorem dX5_best_12 : decode cX5_best 12 = .ok (.ifnull 21, 3) := by decide +kernel
theorem dX5_best_15 : decode cX5_best 15 = .ok (.iload_n 2, 1) := by decide +kernel
theorem dX5_best_16 : decode cX5_best 16 = .ok (.iconst 0, 1) := by decide +kernel
theorem dX5_best_17 : decode cX5_best 17 = .ok (.iconst 2, 1) := by decide +kernel
theorem dX5_best_18 : decode cX5_best 18 = .ok (.invokestatic 48, 3) := by decide +kernel
theorem dX5_best_21 : decode cX5_best 21 = .ok (.ifCond .eq 12, 3) := by decide +kernel
theorem dX5_best_24 : decode cX5_best 24 = .ok (.iload_n 3, 1) := by decide +kernel
theorem dX5_best_25 : decode cX5_best 25 = .ok (.iconst 0, 1) := by decide +kernel
theorem dX5_best_26 : decode cX5_best 26 = .ok (.iconst 1, 1) := by decide +kernel
theorem dX5_best_27 : decode cX5_best 27 = .ok (.invokestatic 48, 3) := by decide +kernel
theorem dX5_best_30 : decode cX5_best 30 = .ok (.ifCond .ne 5, 3) := by decide +kernel
theorem dX5_best_33 : decode cX5_best 33 = .ok (.iconst (-1), 1) := by decide +kernel
theorem dX5_best_34 : decode cX5_best 34 = .ok (.ireturn, 1) := by decide +kernel
theorem dX5_best_35 : decode cX5_best 35 = .ok (.aload_n 0, 1) := by decide +kernel
theorem dX5_best_36 : decode cX5_best 36 = .ok (.getfield 40, 3) := by decide +kernel
theorem dX5_best_39 : decode cX5_best 39 = .ok (.aload_n 0, 1) := by decide +kernel
theorem dX5_best_40 : decode cX5_best 40 = .ok (.getfield 10, 3) := by decide +kernel
theorem dX5_best_43 : decode cX5_best 43 = .ok (.aload 4, 2) := by decide +kernel
theorem dX5_best_45 : decode cX5_best 45 = .ok (.invokevirtual 170, 3) := by decide +kernel
theorem dX5_best_48 : decode cX5_best 48 = .ok (.iload_n 3, 1) := by decide +kernel
theorem dX5_best_49 : decode cX5_best 49 = .ok (.ifCond .ne 13, 3) := by decide +kernel
theorem dX5_best_52 : decode cX5_best 52 = .ok (.aload_n 0, 1) := by decide +kernel
theorem dX5_best_53 : decode cX5_best 53 = .ok (.getfield 40, 3) := by decide +kernel
theorem dX5_best_56 : decode cX5_best 56 = .ok (.invokevirtual 241, 3) := by decide +kernel
theorem dX5_best_59 : decode cX5_best 59 = .ok (.goto 10, 3) := by decide +kernel
theorem dX5_best_62 : decode cX5_best 62 = .ok (.aload_n 0, 1) := by decide +kernel
theorem dX5_best_63 : decode cX5_best 63 = .ok (.getfield 40, 3) := by decide +kernel
theorem dX5_best_66 : decode cX5_best 66 = .ok (.invokevirtual 244, 3) := by decide +kernel
theorem dX5_best_69 : decode cX5_best 69 = .ok (.istore 5, 2) := by decide +kernel
theorem dX5_best_71 : decode cX5_best 71 = .ok (.iload_n 2, 1) := by decide +kernel
theorem dX5_best_72 : decode cX5_best 72 = .ok (.lookupswitch 41 #[(0, 28), (1, 35)], 28) := by decide +kernel
theorem dX5_best_100 : decode cX5_best 100 = .ok (.iload 5, 2) := by decide +kernel
theorem dX5_best_102 : decode cX5_best 102 = .ok (.sipush 2048, 3) := by decide +kernel
theorem dX5_best_105 : decode cX5_best 105 = .ok (.irem, 1) := by decide +kernel
theorem dX5_best_106 : decode cX5_best 106 = .ok (.ireturn, 1) := by decide +kernel
theorem dX5_best_107 : decode cX5_best 107 = .ok (.iload 5, 2) := by decide +kernel
theorem dX5_best_109 : decode cX5_best 109 = .ok (.ldc 247, 2) := by decide +kernel
theorem dX5_best_111 : decode cX5_best 111 = .ok (.idiv, 1) := by decide +kernel
theorem dX5_best_112 : decode cX5_best 112 = .ok (.ireturn, 1) := by decide +kernel
theorem dX5_best_113 : decode cX5_best 113 = .ok (.iload 5, 2) := by decide +kernel
theorem dX5_best_115 : decode cX5_best 115 = .ok (.ldc 247, 2) := by decide +kernel
theorem dX5_best_117 : decode cX5_best 117 = .ok (.irem, 1) := by decide +kernel
theorem dX5_best_118 : decode cX5_best 118 = .ok (.sipush 2048, 3) := by decide +kernel
theorem dX5_best_121 : decode cX5_best 121 = .ok (.idiv, 1) := by decide +kernel
theorem dX5_best_122 : decode cX5_best 122 = .ok (.ireturn, 1) := by decide +kernel
theorem dX5_ways_0 : decode cX5_ways 0 = .ok (.aload_n 0, 1) := by decide +kernel
theorem dX5_ways_1 : decode cX5_ways 1 = .ok (.getfield 10, 3) := by decide +kernel
theorem dX5_ways_4 : decode cX5_ways 4 = .ok (.iload_n 1, 1) := by decide +kernel
theorem dX5_ways_5 : decode cX5_ways 5 = .ok (.invokevirtual 121, 3) := by decide +kernel
theorem dX5_ways_8 : decode cX5_ways 8 = .ok (.astore_n 3, 1) := by decide +kernel
theorem dX5_ways_9 : decode cX5_ways 9 = .ok (.aload_n 3, 1) := by decide +kernel
theorem dX5_ways_10 : decode cX5_ways 10 = .ok (.ifnull 12, 3) := by decide +kernel
theorem dX5_ways_13 : decode cX5_ways 13 = .ok (.iload_n 2, 1) := by decide +kernel
theorem dX5_ways_14 : decode cX5_ways 14 = .ok (.iconst 0, 1) := by decide +kernel
theorem dX5_ways_15 : decode cX5_ways 15 = .ok (.iconst 1, 1) := by decide +kernel
theorem dX5_ways_16 : decode cX5_ways 16 = .ok (.invokestatic 48, 3) := by decide +kernel
theorem dX5_ways_19 : decode cX5_ways 19 = .ok (.ifCond .ne 5, 3) := by decide +kernel
theorem dX5_ways_22 : decode cX5_ways 22 = .ok (.iconst (-1), 1) := by decide +kernel
theorem dX5_ways_23 : decode cX5_ways 23 = .ok (.ireturn, 1) := by decide +kernel
theorem dX5_ways_24 : decode cX5_ways 24 = .ok (.aload_n 0, 1) := by decide +kernel
theorem dX5_ways_25 : decode cX5_ways 25 = .ok (.getfield 40, 3) := by decide +kernel
