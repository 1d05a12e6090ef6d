theorem dX6_print_30 : decode cX6_print 30 = .ok (.aload_n 0, 1) := by decide +kernel
theorem dX6_print_31 : decode cX6_print 31 = .ok (.invokevirtual 112, 3) := by decide +kernel
theorem dX6_print_34 : decode cX6_print 34 = .ok (.aload_n 0, 1) := by decide +kernel
theorem dX6_print_35 : decode cX6_print 35 = .ok (.invokevirtual 180, 3) := by decide +kernel
theorem dX6_print_38 : decode cX6_print 38 = .ok (.istore_n 1, 1) := by decide +kernel
theorem dX6_print_39 : decode cX6_print 39 = .ok (.aload_n 0, 1) := by decide +kernel
theorem dX6_print_40 : decode cX6_print 40 = .ok (.getfield 7, 3) := by decide +kernel
theorem dX6_print_43 : decode cX6_print 43 = .ok (.iconst 3, 1) := by decide +kernel
theorem dX6_print_44 : decode cX6_print 44 = .ok (.dup2, 1) := by decide +kernel
theorem dX6_print_45 : decode cX6_print 45 = .ok (.iaload, 1) := by decide +kernel
theorem dX6_print_46 : decode cX6_print 46 = .ok (.iconst 1, 1) := by decide +kernel
theorem dX6_print_47 : decode cX6_print 47 = .ok (.iadd, 1) := by decide +kernel
theorem dX6_print_48 : decode cX6_print 48 = .ok (.iastore, 1) := by decide +kernel
theorem dX6_print_49 : decode cX6_print 49 = .ok (.aload_n 0, 1) := by decide +kernel
theorem dX6_print_50 : decode cX6_print 50 = .ok (.iconst 0, 1) := by decide +kernel
theorem dX6_print_51 : decode cX6_print 51 = .ok (.putfield 135, 3) := by decide +kernel
theorem dX6_print_54 : decode cX6_print 54 = .ok (.iload_n 1, 1) := by decide +kernel
theorem dX6_print_55 : decode cX6_print 55 = .ok (.ireturn, 1) := by decide +kernel
theorem dX6_doesSuit_0 : decode cX6_doesSuit 0 = .ok (.aload_n 0, 1) := by decide +kernel
theorem dX6_doesSuit_1 : decode cX6_doesSuit 1 = .ok (.getfield 158, 3) := by decide +kernel
theorem dX6_doesSuit_4 : decode cX6_doesSuit 4 = .ok (.ifCond .eq 16, 3) := by decide +kernel
theorem dX6_doesSuit_7 : decode cX6_doesSuit 7 = .ok (.aload_n 0, 1) := by decide +kernel
theorem dX6_doesSuit_8 : decode cX6_doesSuit 8 = .ok (.getfield 7, 3) := by decide +kernel
theorem dX6_doesSuit_11 : decode cX6_doesSuit 11 = .ok (.iconst 0, 1) := by decide +kernel
theorem dX6_doesSuit_12 : decode cX6_doesSuit 12 = .ok (.dup2, 1) := by decide +kernel
theorem dX6_doesSuit_13 : decode cX6_doesSuit 13 = .ok (.iaload, 1) := by decide +kernel
theorem dX6_doesSuit_14 : decode cX6_doesSuit 14 = .ok (.iconst 1, 1) := by decide +kernel
theorem dX6_doesSuit_15 : decode cX6_doesSuit 15 = .ok (.iadd, 1) := by decide +kernel
theorem dX6_doesSuit_16 : decode cX6_doesSuit 16 = .ok (.iastore, 1) := by decide +kernel
theorem dX6_doesSuit_17 : decode cX6_doesSuit 17 = .ok (.bipush 10, 2) := by decide +kernel
theorem dX6_doesSuit_19 : decode cX6_doesSuit 19 = .ok (.ireturn, 1) := by decide +kernel
theorem dX6_doesSuit_20 : decode cX6_doesSuit 20 = .ok (.aload_n 0, 1) := by decide +kernel
theorem dX6_doesSuit_21 : decode cX6_doesSuit 21 = .ok (.aload_n 0, 1) := by decide +kernel
theorem dX6_doesSuit_22 : decode cX6_doesSuit 22 = .ok (.getfield 161, 3) := by decide +kernel
theorem dX6_doesSuit_25 : decode cX6_doesSuit 25 = .ok (.aload_n 0, 1) := by decide +kernel
theorem dX6_doesSuit_26 : decode cX6_doesSuit 26 = .ok (.getfield 164, 3) := by decide +kernel
theorem dX6_doesSuit_29 : decode cX6_doesSuit 29 = .ok (.invokevirtual 129, 3) := by decide +kernel
theorem dX6_doesSuit_32 : decode cX6_doesSuit 32 = .ok (.ifCond .eq 18, 3) := by decide +kernel
theorem dX6_doesSuit_35 : decode cX6_doesSuit 35 = .ok (.aload_n 0, 1) := by decide +kernel
theorem dX6_doesSuit_36 : decode cX6_doesSuit 36 = .ok (.aload_n 0, 1) := by decide +kernel
theorem dX6_doesSuit_37 : decode cX6_doesSuit 37 = .ok (.getfield 161, 3) := by decide +kernel
theorem dX6_doesSuit_40 : decode cX6_doesSuit 40 = .ok (.aload_n 0, 1) := by decide +kernel
theorem dX6_doesSuit_41 : decode cX6_doesSuit 41 = .ok (.getfield 164, 3) := by decide +kernel
theorem dX6_doesSuit_44 : decode cX6_doesSuit 44 = .ok (.invokevirtual 132, 3) := by decide +kernel
theorem dX6_doesSuit_47 : decode cX6_doesSuit 47 = .ok (.goto 4, 3) := by decide +kernel
theorem dX6_doesSuit_50 : decode cX6_doesSuit 50 = .ok (.iconst (-1), 1) := by decide +kernel
theorem dX6_doesSuit_51 : decode cX6_doesSuit 51 = .ok (.ireturn, 1) := by decide +kernel
theorem dX6_plead_0 : decode cX6_plead 0 = .ok (.aload_n 0, 1) := by decide +kernel
theorem dX6_plead_1 : decode cX6_plead 1 = .ok (.invokevirtual 174, 3) := by decide +kernel
theorem dX6_plead_4 : decode cX6_plead 4 = .ok (.ifCond .ne 6, 3) := by decide +kernel
theorem dX6_plead_7 : decode cX6_plead 7 = .ok (.bipush (-2), 2) := by decide +kernel
theorem dX6_plead_9 : decode cX6_plead 9 = .ok (.ireturn, 1) := by decide +kernel
theorem dX6_plead_10 : decode cX6_plead 10 = .ok (.aload_n 0, 1) := by decide +kernel
theorem dX6_plead_11 : decode cX6_plead 11 = .ok (.invokevirtual 112, 3) := by decide +kernel
theorem dX6_plead_14 : decode cX6_plead 14 = .ok (.aload_n 0, 1) := by decide +kernel
theorem dX6_plead_15 : decode cX6_plead 15 = .ok (.iconst 0, 1) := by decide +kernel
theorem dX6_plead_16 : decode cX6_plead 16 = .ok (.putfield 138, 3) := by decide +kernel
theorem dX6_plead_19 : decode cX6_plead 19 = .ok (.aload_n 0, 1) := by decide +kernel
theorem dX6_plead_20 : decode cX6_plead 20 = .ok (.iconst 0, 1) := by decide +kernel
theorem dX6_plead_21 : decode cX6_plead 21 = .ok (.putfield 183, 3) := by decide +kernel
theorem dX6_plead_24 : decode cX6_plead 24 = .ok (.iconst 0, 1) := by decide +kernel
theorem dX6_plead_25 : decode cX6_plead 25 = .ok (.istore_n 1, 1) := by decide +kernel
theorem dX6_plead_26 : decode cX6_plead 26 = .ok (.aload_n 0, 1) := by decide +kernel
theorem dX6_plead_27 : decode cX6_plead 27 = .ok (.getfield 183, 3) := by decide +kernel
theorem dX6_plead_30 : decode cX6_plead 30 = .ok (.ifCond .ne 79, 3) := by decide +kernel
theorem dX6_plead_33 : decode cX6_plead 33 = .ok (.aload_n 0, 1) := by decide +kernel
theorem dX6_plead_34 : decode cX6_plead 34 = .ok (.getfield 138, 3) := by decide +kernel
theorem dX6_plead_37 : decode cX6_plead 37 = .ok (.aload_n 0, 1) := by decide +kernel
theorem dX6_plead_38 : decode cX6_plead 38 = .ok (.getfield 135, 3) := by decide +kernel
theorem dX6_plead_41 : decode cX6_plead 41 = .ok (.if_icmp .ge 68, 3) := by decide +kernel
theorem dX6_plead_44 : decode cX6_plead 44 = .ok (.aload_n 0, 1) := by decide +kernel
theorem dX6_plead_45 : decode cX6_plead 45 = .ok (.getfield 138, 3) := by decide +kernel
theorem dX6_plead_48 : decode cX6_plead 48 = .ok (.istore_n 2, 1) := by decide +kernel
theorem dX6_plead_49 : decode cX6_plead 49 = .ok (.aload_n 0, 1) := by decide +kernel
theorem dX6_plead_50 : decode cX6_plead 50 = .ok (.invokevirtual 167, 3) := by decide +kernel
theorem dX6_plead_53 : decode cX6_plead 53 = .ok (.aload_n 0, 1) := by decide +kernel
theorem dX6_plead_54 : decode cX6_plead 54 = .ok (.dup, 1) := by decide +kernel
theorem dX6_plead_55 : decode cX6_plead 55 = .ok (.getfield 138, 3) := by decide +kernel
theorem dX6_plead_58 : decode cX6_plead 58 = .ok (.iconst 1, 1) := by decide +kernel
theorem dX6_plead_59 : decode cX6_plead 59 = .ok (.iadd, 1) := by decide +kernel
theorem dX6_plead_60 : decode cX6_plead 60 = .ok (.putfield 138, 3) := by decide +kernel
theorem dX6_plead_63 : decode cX6_plead 63 = .ok (.aload_n 0, 1) := by decide +kernel
theorem dX6_plead_64 : decode cX6_plead 64 = .ok (.invokevirtual 186, 3) := by decide +kernel
theorem dX6_plead_67 : decode cX6_plead 67 = .ok (.istore_n 3, 1) := by decide +kernel
theorem dX6_plead_68 : decode cX6_plead 68 = .ok (.iload_n 3, 1) := by decide +kernel
theorem dX6_plead_69 : decode cX6_plead 69 = .ok (.bipush 10, 2) := by decide +kernel
theorem dX6_plead_71 : decode cX6_plead 71 = .ok (.if_icmp .ge 32, 3) := by decide +kernel
theorem dX6_plead_74 : decode cX6_plead 74 = .ok (.aload_n 0, 1) := by decide +kernel
theorem dX6_plead_75 : decode cX6_plead 75 = .ok (.iconst 1, 1) := by decide +kernel
theorem dX6_plead_76 : decode cX6_plead 76 = .ok (.putfield 183, 3) := by decide +kernel
theorem dX6_plead_79 : decode cX6_plead 79 = .ok (.aload_n 0, 1) := by decide +kernel
theorem dX6_plead_80 : decode cX6_plead 80 = .ok (.getfield 22, 3) := by decide +kernel
theorem dX6_plead_83 : decode cX6_plead 83 = .ok (.iconst 0, 1) := by decide +kernel
theorem dX6_plead_84 : decode cX6_plead 84 = .ok (.iload_n 3, 1) := by decide +kernel
theorem dX6_plead_85 : decode cX6_plead 85 = .ok (.iastore, 1) := by decide +kernel
theorem dX6_plead_86 : decode cX6_plead 86 = .ok (.aload_n 0, 1) := by decide +kernel
theorem dX6_plead_87 : decode cX6_plead 87 = .ok (.getfield 22, 3) := by decide +kernel
theorem dX6_plead_90 : decode cX6_plead 90 = .ok (.iconst 1, 1) := by decide +kernel
theorem dX6_plead_91 : decode cX6_plead 91 = .ok (.iload_n 1, 1) := by decide +kernel
theorem dX6_plead_92 : decode cX6_plead 92 = .ok (.iastore, 1) := by decide +kernel
theorem dX6_plead_93 : decode cX6_plead 93 = .ok (.aload_n 0, 1) := by decide +kernel
theorem dX6_plead_94 : decode cX6_plead 94 = .ok (.getfield 22, 3) := by decide +kernel
theorem dX6_plead_97 : decode cX6_plead 97 = .ok (.iconst 2, 1) := by decide +kernel
theorem dX6_plead_98 : decode cX6_plead 98 = .ok (.iload_n 2, 1) := by decide +kernel
theorem dX6_plead_99 : decode cX6_plead 99 = .ok (.iastore, 1) := by decide +kernel
theorem dX6_plead_100 : decode cX6_plead 100 = .ok (.goto 6, 3) := by decide +kernel
theorem dX6_plead_103 : decode cX6_plead 103 = .ok (.iinc 1 1, 3) := by decide +kernel
theorem dX6_plead_106 : decode cX6_plead 106 = .ok (.goto (-80), 3) := by decide +kernel
theorem dX6_plead_109 : decode cX6_plead 109 = .ok (.aload_n 0, 1) := by decide +kernel
theorem dX6_plead_110 : decode cX6_plead 110 = .ok (.iconst 0, 1) := by decide +kernel
theorem dX6_plead_111 : decode cX6_plead 111 = .ok (.putfield 135, 3) := by decide +kernel
theorem dX6_plead_114 : decode cX6_plead 114 = .ok (.iload_n 1, 1) := by decide +kernel
theorem dX6_plead_115 : decode cX6_plead 115 = .ok (.ireturn, 1) := by decide +kernel
theorem dX6_why_0 : decode cX6_why 0 = .ok (.iload_n 1, 1) := by decide +kernel
theorem dX6_why_1 : decode cX6_why 1 = .ok (.iconst 0, 1) := by decide +kernel
theorem dX6_why_2 : decode cX6_why 2 = .ok (.iconst 2, 1) := by decide +kernel
theorem dX6_why_3 : decode cX6_why 3 = .ok (.invokestatic 42, 3) := by decide +kernel
theorem dX6_why_6 : decode cX6_why 6 = .ok (.ifCond .ne 5, 3) := by decide +kernel
theorem dX6_why_9 : decode cX6_why 9 = .ok (.iconst (-1), 1) := by decide +kernel
theorem dX6_why_10 : decode cX6_why 10 = .ok (.ireturn, 1) := by decide +kernel
theorem dX6_why_11 : decode cX6_why 11 = .ok (.aload_n 0, 1) := by decide +kernel
theorem dX6_why_12 : decode cX6_why 12 = .ok (.getfield 183, 3) := by decide +kernel
theorem dX6_why_15 : decode cX6_why 15 = .ok (.ifCond .eq 12, 3) := by decide +kernel
theorem dX6_why_18 : decode cX6_why 18 = .ok (.aload_n 0, 1) := by decide +kernel
theorem dX6_why_19 : decode cX6_why 19 = .ok (.getfield 22, 3) := by decide +kernel
theorem dX6_why_22 : decode cX6_why 22 = .ok (.iload_n 1, 1) := by decide +kernel
theorem dX6_why_23 : decode cX6_why 23 = .ok (.iaload, 1) := by decide +kernel
theorem dX6_why_24 : decode cX6_why 24 = .ok (.goto 5, 3) := by decide +kernel
theorem dX6_why_27 : decode cX6_why 27 = .ok (.bipush (-4), 2) := by decide +kernel
theorem dX6_why_29 : decode cX6_why 29 = .ok (.ireturn, 1) := by decide +kernel
theorem dX6_sign_0 : decode cX6_sign 0 = .ok (.aload_n 0, 1) := by decide +kernel
theorem dX6_sign_1 : decode cX6_sign 1 = .ok (.iload_n 1, 1) := by decide +kernel
theorem dX6_sign_2 : decode cX6_sign 2 = .ok (.invokevirtual 57, 3) := by decide +kernel
theorem dX6_sign_5 : decode cX6_sign 5 = .ok (.ifCond .eq 7, 3) := by decide +kernel
theorem dX6_sign_8 : decode cX6_sign 8 = .ok (.iload_n 2, 1) := by decide +kernel
theorem dX6_sign_9 : decode cX6_sign 9 = .ok (.ifCond .ge 5, 3) := by decide +kernel
theorem dX6_sign_12 : decode cX6_sign 12 = .ok (.iconst (-1), 1) := by decide +kernel
theorem dX6_sign_13 : decode cX6_sign 13 = .ok (.ireturn, 1) := by decide +kernel
theorem dX6_sign_14 : decode cX6_sign 14 = .ok (.bipush (-4), 2) := by decide +kernel
theorem dX6_sign_16 : decode cX6_sign 16 = .ok (.istore_n 3, 1) := by decide +kernel
theorem dX6_sign_17 : decode cX6_sign 17 = .ok (.iconst 0, 1) := by decide +kernel
theorem dX6_sign_18 : decode cX6_sign 18 = .ok (.istore 4, 2) := by decide +kernel
theorem dX6_sign_20 : decode cX6_sign 20 = .ok (.iconst 0, 1) := by decide +kernel
theorem dX6_sign_21 : decode cX6_sign 21 = .ok (.istore 5, 2) := by decide +kernel
theorem dX6_sign_23 : decode cX6_sign 23 = .ok (.iload 5, 2) := by decide +kernel
theorem dX6_sign_25 : decode cX6_sign 25 = .ok (.aload_n 0, 1) := by decide +kernel
theorem dX6_sign_26 : decode cX6_sign 26 = .ok (.iload_n 1, 1) := by decide +kernel
theorem dX6_sign_27 : decode cX6_sign 27 = .ok (.iconst 0, 1) := by decide +kernel
theorem dX6_sign_28 : decode cX6_sign 28 = .ok (.invokevirtual 60, 3) := by decide +kernel
theorem dX6_sign_31 : decode cX6_sign 31 = .ok (.if_icmp .ge 64, 3) := by decide +kernel
theorem dX6_sign_34 : decode cX6_sign 34 = .ok (.iload 4, 2) := by decide +kernel
theorem dX6_sign_36 : decode cX6_sign 36 = .ok (.iload_n 2, 1) := by decide +kernel
theorem dX6_sign_37 : decode cX6_sign 37 = .ok (.if_icmp .ne 16, 3) := by decide +kernel
theorem dX6_sign_40 : decode cX6_sign 40 = .ok (.bipush 97, 2) := by decide +kernel
theorem dX6_sign_42 : decode cX6_sign 42 = .ok (.aload_n 0, 1) := by decide +kernel
theorem dX6_sign_43 : decode cX6_sign 43 = .ok (.iload_n 1, 1) := by decide +kernel
theorem dX6_sign_44 : decode cX6_sign 44 = .ok (.iload 5, 2) := by decide +kernel
theorem dX6_sign_46 : decode cX6_sign 46 = .ok (.invokevirtual 63, 3) := by decide +kernel
theorem dX6_sign_49 : decode cX6_sign 49 = .ok (.iadd, 1) := by decide +kernel
theorem dX6_sign_50 : decode cX6_sign 50 = .ok (.goto 4, 3) := by decide +kernel
theorem dX6_sign_53 : decode cX6_sign 53 = .ok (.iload_n 3, 1) := by decide +kernel
theorem dX6_sign_54 : decode cX6_sign 54 = .ok (.istore_n 3, 1) := by decide +kernel
theorem dX6_sign_55 : decode cX6_sign 55 = .ok (.iinc 4 1, 3) := by decide +kernel
theorem dX6_sign_58 : decode cX6_sign 58 = .ok (.aload_n 0, 1) := by decide +kernel
theorem dX6_sign_59 : decode cX6_sign 59 = .ok (.iload_n 1, 1) := by decide +kernel
theorem dX6_sign_60 : decode cX6_sign 60 = .ok (.iconst 1, 1) := by decide +kernel
theorem dX6_sign_61 : decode cX6_sign 61 = .ok (.invokevirtual 60, 3) := by decide +kernel
theorem dX6_sign_64 : decode cX6_sign 64 = .ok (.iload 5, 2) := by decide +kernel
theorem dX6_sign_66 : decode cX6_sign 66 = .ok (.ishr, 1) := by decide +kernel
theorem dX6_sign_67 : decode cX6_sign 67 = .ok (.iconst 1, 1) := by decide +kernel
theorem dX6_sign_68 : decode cX6_sign 68 = .ok (.iand, 1) := by decide +kernel
theorem dX6_sign_69 : decode cX6_sign 69 = .ok (.iconst 1, 1) := by decide +kernel
theorem dX6_sign_70 : decode cX6_sign 70 = .ok (.if_icmp .ne 19, 3) := by decide +kernel
theorem dX6_sign_73 : decode cX6_sign 73 = .ok (.iload 4, 2) := by decide +kernel
theorem dX6_sign_75 : decode cX6_sign 75 = .ok (.iload_n 2, 1) := by decide +kernel
theorem dX6_sign_76 : decode cX6_sign 76 = .ok (.if_icmp .ne 8, 3) := by decide +kernel
theorem dX6_sign_79 : decode cX6_sign 79 = .ok (.bipush 44, 2) := by decide +kernel
theorem dX6_sign_81 : decode cX6_sign 81 = .ok (.goto 4, 3) := by decide +kernel
theorem dX6_sign_84 : decode cX6_sign 84 = .ok (.iload_n 3, 1) := by decide +kernel
theorem dX6_sign_85 : decode cX6_sign 85 = .ok (.istore_n 3, 1) := by decide +kernel
theorem dX6_sign_86 : decode cX6_sign 86 = .ok (.iinc 4 1, 3) := by decide +kernel
theorem dX6_sign_89 : decode cX6_sign 89 = .ok (.iinc 5 1, 3) := by decide +kernel
theorem dX6_sign_92 : decode cX6_sign 92 = .ok (.goto (-69), 3) := by decide +kernel
theorem dX6_sign_95 : decode cX6_sign 95 = .ok (.iload_n 3, 1) := by decide +kernel
theorem dX6_sign_96 : decode cX6_sign 96 = .ok (.ireturn, 1) := by decide +kernel
theorem dX6_allWeight_0 : decode cX6_allWeight 0 = .ok (.iconst 0, 1) := by decide +kernel
theorem dX6_allWeight_1 : decode cX6_allWeight 1 = .ok (.istore_n 2, 1) := by decide +kernel
theorem dX6_allWeight_2 : decode cX6_allWeight 2 = .ok (.iconst 0, 1) := by decide +kernel
theorem dX6_allWeight_3 : decode cX6_allWeight 3 = .ok (.istore_n 3, 1) := by decide +kernel
theorem dX6_allWeight_4 : decode cX6_allWeight 4 = .ok (.iload_n 3, 1) := by decide +kernel
theorem dX6_allWeight_5 : decode cX6_allWeight 5 = .ok (.aload_n 0, 1) := by decide +kernel
theorem dX6_allWeight_6 : decode cX6_allWeight 6 = .ok (.iload_n 1, 1) := by decide +kernel
theorem dX6_allWeight_7 : decode cX6_allWeight 7 = .ok (.iconst 0, 1) := by decide +kernel
theorem dX6_allWeight_8 : decode cX6_allWeight 8 = .ok (.invokevirtual 60, 3) := by decide +kernel
theorem dX6_allWeight_11 : decode cX6_allWeight 11 = .ok (.if_icmp .ge 18, 3) := by decide +kernel
theorem dX6_allWeight_14 : decode cX6_allWeight 14 = .ok (.iload_n 2, 1) := by decide +kernel
theorem dX6_allWeight_15 : decode cX6_allWeight 15 = .ok (.aload_n 0, 1) := by decide +kernel
theorem dX6_allWeight_16 : decode cX6_allWeight 16 = .ok (.iload_n 1, 1) := by decide +kernel
theorem dX6_allWeight_17 : decode cX6_allWeight 17 = .ok (.iload_n 3, 1) := by decide +kernel
theorem dX6_allWeight_18 : decode cX6_allWeight 18 = .ok (.invokevirtual 66, 3) := by decide +kernel
theorem dX6_allWeight_21 : decode cX6_allWeight 21 = .ok (.iadd, 1) := by decide +kernel
theorem dX6_allWeight_22 : decode cX6_allWeight 22 = .ok (.istore_n 2, 1) := by decide +kernel
theorem dX6_allWeight_23 : decode cX6_allWeight 23 = .ok (.iinc 3 1, 3) := by decide +kernel
theorem dX6_allWeight_26 : decode cX6_allWeight 26 = .ok (.goto (-22), 3) := by decide +kernel
theorem dX6_allWeight_29 : decode cX6_allWeight 29 = .ok (.iload_n 2, 1) := by decide +kernel
theorem dX6_allWeight_30 : decode cX6_allWeight 30 = .ok (.ireturn, 1) := by decide +kernel
theorem dX6_edition_0 : decode cX6_edition 0 = .ok (.aload_n 0, 1) := by decide +kernel
theorem dX6_edition_1 : decode cX6_edition 1 = .ok (.iload_n 1, 1) := by decide +kernel
theorem dX6_edition_2 : decode cX6_edition 2 = .ok (.invokevirtual 57, 3) := by decide +kernel
theorem dX6_edition_5 : decode cX6_edition 5 = .ok (.ifCond .ne 5, 3) := by decide +kernel
theorem dX6_edition_8 : decode cX6_edition 8 = .ok (.iconst (-1), 1) := by decide +kernel
theorem dX6_edition_9 : decode cX6_edition 9 = .ok (.ireturn, 1) := by decide +kernel
theorem dX6_edition_10 : decode cX6_edition 10 = .ok (.aload_n 0, 1) := by decide +kernel
theorem dX6_edition_11 : decode cX6_edition 11 = .ok (.iload_n 1, 1) := by decide +kernel
theorem dX6_edition_12 : decode cX6_edition 12 = .ok (.iconst 1, 1) := by decide +kernel
theorem dX6_edition_13 : decode cX6_edition 13 = .ok (.invokevirtual 60, 3) := by decide +kernel
theorem dX6_edition_16 : decode cX6_edition 16 = .ok (.istore_n 3, 1) := by decide +kernel
theorem dX6_edition_17 : decode cX6_edition 17 = .ok (.iload_n 2, 1) := by decide +kernel
theorem dX6_edition_18 : decode cX6_edition 18 = .ok (.tableswitch 124 0 9 #[54, 61, 63, 70, 76, 83, 90, 96, 110, 117], 54) := by decide +kernel
theorem dX6_edition_72 : decode cX6_edition 72 = .ok (.aload_n 0, 1) := by decide +kernel
theorem dX6_edition_73 : decode cX6_edition 73 = .ok (.iload_n 1, 1) := by decide +kernel
theorem dX6_edition_74 : decode cX6_edition 74 = .ok (.iconst 0, 1) := by decide +kernel
theorem dX6_edition_75 : decode cX6_edition 75 = .ok (.invokevirtual 60, 3) := by decide +kernel
theorem dX6_edition_78 : decode cX6_edition 78 = .ok (.ireturn, 1) := by decide +kernel
theorem dX6_edition_79 : decode cX6_edition 79 = .ok (.iload_n 3, 1) := by decide +kernel
theorem dX6_edition_80 : decode cX6_edition 80 = .ok (.ireturn, 1) := by decide +kernel
theorem dX6_edition_81 : decode cX6_edition 81 = .ok (.iload_n 3, 1) := by decide +kernel
theorem dX6_edition_82 : decode cX6_edition 82 = .ok (.invokestatic 189, 3) := by decide +kernel
theorem dX6_edition_85 : decode cX6_edition 85 = .ok (.iconst 1, 1) := by decide +kernel
theorem dX6_edition_86 : decode cX6_edition 86 = .ok (.iadd, 1) := by decide +kernel
theorem dX6_edition_87 : decode cX6_edition 87 = .ok (.ireturn, 1) := by decide +kernel
theorem dX6_edition_88 : decode cX6_edition 88 = .ok (.aload_n 0, 1) := by decide +kernel
theorem dX6_edition_89 : decode cX6_edition 89 = .ok (.iload_n 1, 1) := by decide +kernel
theorem dX6_edition_90 : decode cX6_edition 90 = .ok (.invokevirtual 192, 3) := by decide +kernel
theorem dX6_edition_93 : decode cX6_edition 93 = .ok (.ireturn, 1) := by decide +kernel
theorem dX6_edition_94 : decode cX6_edition 94 = .ok (.aload_n 0, 1) := by decide +kernel
theorem dX6_edition_95 : decode cX6_edition 95 = .ok (.iload_n 1, 1) := by decide +kernel
theorem dX6_edition_96 : decode cX6_edition 96 = .ok (.iload_n 3, 1) := by decide +kernel
theorem dX6_edition_97 : decode cX6_edition 97 = .ok (.invokevirtual 80, 3) := by decide +kernel
theorem dX6_edition_100 : decode cX6_edition 100 = .ok (.ireturn, 1) := by decide +kernel
theorem dX6_edition_101 : decode cX6_edition 101 = .ok (.aload_n 0, 1) := by decide +kernel
theorem dX6_edition_102 : decode cX6_edition 102 = .ok (.iload_n 1, 1) := by decide +kernel
theorem dX6_edition_103 : decode cX6_edition 103 = .ok (.iload_n 3, 1) := by decide +kernel
theorem dX6_edition_104 : decode cX6_edition 104 = .ok (.invokevirtual 83, 3) := by decide +kernel
theorem dX6_edition_107 : decode cX6_edition 107 = .ok (.ireturn, 1) := by decide +kernel
theorem dX6_edition_108 : decode cX6_edition 108 = .ok (.aload_n 0, 1) := by decide +kernel
theorem dX6_edition_109 : decode cX6_edition 109 = .ok (.iload_n 1, 1) := by decide +kernel
theorem dX6_edition_110 : decode cX6_edition 110 = .ok (.invokevirtual 89, 3) := by decide +kernel
theorem dX6_edition_113 : decode cX6_edition 113 = .ok (.ireturn, 1) := by decide +kernel
theorem dX6_edition_114 : decode cX6_edition 114 = .ok (.aload_n 0, 1) := by decide +kernel
theorem dX6_edition_115 : decode cX6_edition 115 = .ok (.iload_n 1, 1) := by decide +kernel
theorem dX6_edition_116 : decode cX6_edition 116 = .ok (.invokevirtual 96, 3) := by decide +kernel
theorem dX6_edition_119 : decode cX6_edition 119 = .ok (.ifCond .eq 7, 3) := by decide +kernel
theorem dX6_edition_122 : decode cX6_edition 122 = .ok (.iconst 1, 1) := by decide +kernel
theorem dX6_edition_123 : decode cX6_edition 123 = .ok (.goto 4, 3) := by decide +kernel
theorem dX6_edition_126 : decode cX6_edition 126 = .ok (.iconst 0, 1) := by decide +kernel
theorem dX6_edition_127 : decode cX6_edition 127 = .ok (.ireturn, 1) := by decide +kernel
theorem dX6_edition_128 : decode cX6_edition 128 = .ok (.aload_n 0, 1) := by decide +kernel
theorem dX6_edition_129 : decode cX6_edition 129 = .ok (.iload_n 1, 1) := by decide +kernel
theorem dX6_edition_130 : decode cX6_edition 130 = .ok (.iconst 2, 1) := by decide +kernel
theorem dX6_edition_131 : decode cX6_edition 131 = .ok (.invokevirtual 60, 3) := by decide +kernel
theorem dX6_edition_134 : decode cX6_edition 134 = .ok (.ireturn, 1) := by decide +kernel
theorem dX6_edition_135 : decode cX6_edition 135 = .ok (.aload_n 0, 1) := by decide +kernel
theorem dX6_edition_136 : decode cX6_edition 136 = .ok (.iload_n 1, 1) := by decide +kernel
theorem dX6_edition_137 : decode cX6_edition 137 = .ok (.iconst 3, 1) := by decide +kernel
theorem dX6_edition_138 : decode cX6_edition 138 = .ok (.invokevirtual 60, 3) := by decide +kernel
theorem dX6_edition_141 : decode cX6_edition 141 = .ok (.ireturn, 1) := by decide +kernel
theorem dX6_edition_142 : decode cX6_edition 142 = .ok (.iconst (-1), 1) := by decide +kernel
theorem dX6_edition_143 : decode cX6_edition 143 = .ok (.ireturn, 1) := by decide +kernel
theorem dX6_gap_0 : decode cX6_gap 0 = .ok (.aload_n 0, 1) := by decide +kernel
theorem dX6_gap_1 : decode cX6_gap 1 = .ok (.iload_n 1, 1) := by decide +kernel
theorem dX6_gap_2 : decode cX6_gap 2 = .ok (.iload_n 2, 1) := by decide +kernel
theorem dX6_gap_3 : decode cX6_gap 3 = .ok (.invokevirtual 129, 3) := by decide +kernel
theorem dX6_gap_6 : decode cX6_gap 6 = .ok (.ifCond .ne 5, 3) := by decide +kernel
theorem dX6_gap_9 : decode cX6_gap 9 = .ok (.iconst (-1), 1) := by decide +kernel
theorem dX6_gap_10 : decode cX6_gap 10 = .ok (.ireturn, 1) := by decide +kernel
theorem dX6_gap_11 : decode cX6_gap 11 = .ok (.aload_n 0, 1) := by decide +kernel
theorem dX6_gap_12 : decode cX6_gap 12 = .ok (.iload_n 1, 1) := by decide +kernel
theorem dX6_gap_13 : decode cX6_gap 13 = .ok (.iconst 1, 1) := by decide +kernel
theorem dX6_gap_14 : decode cX6_gap 14 = .ok (.invokevirtual 60, 3) := by decide +kernel
theorem dX6_gap_17 : decode cX6_gap 17 = .ok (.istore 4, 2) := by decide +kernel
theorem dX6_gap_19 : decode cX6_gap 19 = .ok (.iload_n 3, 1) := by decide +kernel
theorem dX6_gap_20 : decode cX6_gap 20 = .ok (.tableswitch 77 0 3 #[32, 39, 46, 55], 32) := by decide +kernel
theorem dX6_gap_52 : decode cX6_gap 52 = .ok (.iload 4, 2) := by decide +kernel
theorem dX6_gap_54 : decode cX6_gap 54 = .ok (.iload_n 2, 1) := by decide +kernel
theorem dX6_gap_55 : decode cX6_gap 55 = .ok (.ishr, 1) := by decide +kernel
theorem dX6_gap_56 : decode cX6_gap 56 = .ok (.iconst 1, 1) := by decide +kernel
theorem dX6_gap_57 : decode cX6_gap 57 = .ok (.iand, 1) := by decide +kernel
theorem dX6_gap_58 : decode cX6_gap 58 = .ok (.ireturn, 1) := by decide +kernel
theorem dX6_gap_59 : decode cX6_gap 59 = .ok (.aload_n 0, 1) := by decide +kernel
theorem dX6_gap_60 : decode cX6_gap 60 = .ok (.iload_n 1, 1) := by decide +kernel
theorem dX6_gap_61 : decode cX6_gap 61 = .ok (.iload_n 2, 1) := by decide +kernel
theorem dX6_gap_62 : decode cX6_gap 62 = .ok (.invokevirtual 73, 3) := by decide +kernel
theorem dX6_gap_65 : decode cX6_gap 65 = .ok (.ireturn, 1) := by decide +kernel
theorem dX6_gap_66 : decode cX6_gap 66 = .ok (.aload_n 0, 1) := by decide +kernel
theorem dX6_gap_67 : decode cX6_gap 67 = .ok (.iload_n 1, 1) := by decide +kernel
theorem dX6_gap_68 : decode cX6_gap 68 = .ok (.iload_n 2, 1) := by decide +kernel
theorem dX6_gap_69 : decode cX6_gap 69 = .ok (.iload 4, 2) := by decide +kernel
theorem dX6_gap_71 : decode cX6_gap 71 = .ok (.invokevirtual 76, 3) := by decide +kernel
theorem dX6_gap_74 : decode cX6_gap 74 = .ok (.ireturn, 1) := by decide +kernel
theorem dX6_gap_75 : decode cX6_gap 75 = .ok (.sipush 1000, 3) := by decide +kernel
theorem dX6_gap_78 : decode cX6_gap 78 = .ok (.aload_n 0, 1) := by decide +kernel
theorem dX6_gap_79 : decode cX6_gap 79 = .ok (.iload_n 1, 1) := by decide +kernel
theorem dX6_gap_80 : decode cX6_gap 80 = .ok (.iload 4, 2) := by decide +kernel
theorem dX6_gap_82 : decode cX6_gap 82 = .ok (.iconst 1, 1) := by decide +kernel
theorem dX6_gap_83 : decode cX6_gap 83 = .ok (.iload_n 2, 1) := by decide +kernel
theorem dX6_gap_84 : decode cX6_gap 84 = .ok (.ishl, 1) := by decide +kernel
theorem dX6_gap_85 : decode cX6_gap 85 = .ok (.ixor, 1) := by decide +kernel
theorem dX6_gap_86 : decode cX6_gap 86 = .ok (.invokevirtual 86, 3) := by decide +kernel
theorem dX6_gap_89 : decode cX6_gap 89 = .ok (.iadd, 1) := by decide +kernel
theorem dX6_gap_90 : decode cX6_gap 90 = .ok (.aload_n 0, 1) := by decide +kernel
theorem dX6_gap_91 : decode cX6_gap 91 = .ok (.iload_n 1, 1) := by decide +kernel
theorem dX6_gap_92 : decode cX6_gap 92 = .ok (.invokevirtual 89, 3) := by decide +kernel
theorem dX6_gap_95 : decode cX6_gap 95 = .ok (.isub, 1) := by decide +kernel
theorem dX6_gap_96 : decode cX6_gap 96 = .ok (.ireturn, 1) := by decide +kernel
theorem dX6_gap_97 : decode cX6_gap 97 = .ok (.iconst (-1), 1) := by decide +kernel
theorem dX6_gap_98 : decode cX6_gap 98 = .ok (.ireturn, 1) := by decide +kernel
theorem dX6_citing_0 : decode cX6_citing 0 = .ok (.iconst 0, 1) := by decide +kernel
theorem dX6_citing_1 : decode cX6_citing 1 = .ok (.istore_n 2, 1) := by decide +kernel
theorem dX6_citing_2 : decode cX6_citing 2 = .ok (.iconst 0, 1) := by decide +kernel
theorem dX6_citing_3 : decode cX6_citing 3 = .ok (.istore_n 3, 1) := by decide +kernel
theorem dX6_citing_4 : decode cX6_citing 4 = .ok (.iload_n 3, 1) := by decide +kernel
theorem dX6_citing_5 : decode cX6_citing 5 = .ok (.aload_n 0, 1) := by decide +kernel
theorem dX6_citing_6 : decode cX6_citing 6 = .ok (.getfield 7, 3) := by decide +kernel
theorem dX6_citing_9 : decode cX6_citing 9 = .ok (.iconst 4, 1) := by decide +kernel
theorem dX6_citing_10 : decode cX6_citing 10 = .ok (.iaload, 1) := by decide +kernel
theorem dX6_citing_11 : decode cX6_citing 11 = .ok (.if_icmp .ge 29, 3) := by decide +kernel
theorem dX6_citing_14 : decode cX6_citing 14 = .ok (.iload_n 2, 1) := by decide +kernel
theorem dX6_citing_15 : decode cX6_citing 15 = .ok (.aload_n 0, 1) := by decide +kernel
theorem dX6_citing_16 : decode cX6_citing 16 = .ok (.iload_n 3, 1) := by decide +kernel
theorem dX6_citing_17 : decode cX6_citing 17 = .ok (.iconst 4, 1) := by decide +kernel
theorem dX6_citing_18 : decode cX6_citing 18 = .ok (.invokevirtual 46, 3) := by decide +kernel
theorem dX6_citing_21 : decode cX6_citing 21 = .ok (.iload_n 1, 1) := by decide +kernel
theorem dX6_citing_22 : decode cX6_citing 22 = .ok (.iconst 1, 1) := by decide +kernel
theorem dX6_citing_23 : decode cX6_citing 23 = .ok (.iadd, 1) := by decide +kernel
theorem dX6_citing_24 : decode cX6_citing 24 = .ok (.if_icmp .ne 7, 3) := by decide +kernel
theorem dX6_citing_27 : decode cX6_citing 27 = .ok (.iconst 1, 1) := by decide +kernel
theorem dX6_citing_28 : decode cX6_citing 28 = .ok (.goto 4, 3) := by decide +kernel
theorem dX6_citing_31 : decode cX6_citing 31 = .ok (.iconst 0, 1) := by decide +kernel
theorem dX6_citing_32 : decode cX6_citing 32 = .ok (.iadd, 1) := by decide +kernel
theorem dX6_citing_33 : decode cX6_citing 33 = .ok (.istore_n 2, 1) := by decide +kernel
theorem dX6_citing_34 : decode cX6_citing 34 = .ok (.iinc 3 1, 3) := by decide +kernel
theorem dX6_citing_37 : decode cX6_citing 37 = .ok (.goto (-33), 3) := by decide +kernel
theorem dX6_citing_40 : decode cX6_citing 40 = .ok (.iload_n 2, 1) := by decide +kernel
theorem dX6_citing_41 : decode cX6_citing 41 = .ok (.ireturn, 1) := by decide +kernel
theorem dX6_finesBy_0 : decode cX6_finesBy 0 = .ok (.iconst 0, 1) := by decide +kernel
theorem dX6_finesBy_1 : decode cX6_finesBy 1 = .ok (.istore_n 2, 1) := by decide +kernel
theorem dX6_finesBy_2 : decode cX6_finesBy 2 = .ok (.iconst 0, 1) := by decide +kernel
theorem dX6_finesBy_3 : decode cX6_finesBy 3 = .ok (.istore_n 3, 1) := by decide +kernel
theorem dX6_finesBy_4 : decode cX6_finesBy 4 = .ok (.iload_n 3, 1) := by decide +kernel
theorem dX6_finesBy_5 : decode cX6_finesBy 5 = .ok (.aload_n 0, 1) := by decide +kernel
theorem dX6_finesBy_6 : decode cX6_finesBy 6 = .ok (.getfield 7, 3) := by decide +kernel
theorem dX6_finesBy_9 : decode cX6_finesBy 9 = .ok (.iconst 3, 1) := by decide +kernel
theorem dX6_finesBy_10 : decode cX6_finesBy 10 = .ok (.iaload, 1) := by decide +kernel
theorem dX6_finesBy_11 : decode cX6_finesBy 11 = .ok (.if_icmp .ge 62, 3) := by decide +kernel
theorem dX6_finesBy_14 : decode cX6_finesBy 14 = .ok (.iconst 0, 1) := by decide +kernel
theorem dX6_finesBy_15 : decode cX6_finesBy 15 = .ok (.istore 4, 2) := by decide +kernel
theorem dX6_finesBy_17 : decode cX6_finesBy 17 = .ok (.iload 4, 2) := by decide +kernel
theorem dX6_finesBy_19 : decode cX6_finesBy 19 = .ok (.iconst 1, 1) := by decide +kernel
theorem dX6_finesBy_20 : decode cX6_finesBy 20 = .ok (.iadd, 1) := by decide +kernel
theorem dX6_finesBy_21 : decode cX6_finesBy 21 = .ok (.aload_n 0, 1) := by decide +kernel
theorem dX6_finesBy_22 : decode cX6_finesBy 22 = .ok (.iload_n 3, 1) := by decide +kernel
theorem dX6_finesBy_23 : decode cX6_finesBy 23 = .ok (.iconst 0, 1) := by decide +kernel
theorem dX6_finesBy_24 : decode cX6_finesBy 24 = .ok (.invokevirtual 60, 3) := by decide +kernel
theorem dX6_finesBy_27 : decode cX6_finesBy 27 = .ok (.if_icmp .ge 40, 3) := by decide +kernel
theorem dX6_finesBy_30 : decode cX6_finesBy 30 = .ok (.iload_n 2, 1) := by decide +kernel
theorem dX6_finesBy_31 : decode cX6_finesBy 31 = .ok (.aload_n 0, 1) := by decide +kernel
theorem dX6_finesBy_32 : decode cX6_finesBy 32 = .ok (.iload_n 3, 1) := by decide +kernel
theorem dX6_finesBy_33 : decode cX6_finesBy 33 = .ok (.iload 4, 2) := by decide +kernel
theorem dX6_finesBy_35 : decode cX6_finesBy 35 = .ok (.invokevirtual 73, 3) := by decide +kernel
theorem dX6_finesBy_38 : decode cX6_finesBy 38 = .ok (.iload_n 1, 1) := by decide +kernel
theorem dX6_finesBy_39 : decode cX6_finesBy 39 = .ok (.if_icmp .ne 19, 3) := by decide +kernel
theorem dX6_finesBy_42 : decode cX6_finesBy 42 = .ok (.aload_n 0, 1) := by decide +kernel
theorem dX6_finesBy_43 : decode cX6_finesBy 43 = .ok (.iload_n 3, 1) := by decide +kernel
theorem dX6_finesBy_44 : decode cX6_finesBy 44 = .ok (.iload 4, 2) := by decide +kernel
theorem dX6_finesBy_46 : decode cX6_finesBy 46 = .ok (.aload_n 0, 1) := by decide +kernel
theorem dX6_finesBy_47 : decode cX6_finesBy 47 = .ok (.iload_n 3, 1) := by decide +kernel
theorem dX6_finesBy_48 : decode cX6_finesBy 48 = .ok (.iconst 1, 1) := by decide +kernel
theorem dX6_finesBy_49 : decode cX6_finesBy 49 = .ok (.invokevirtual 60, 3) := by decide +kernel
theorem dX6_finesBy_52 : decode cX6_finesBy 52 = .ok (.invokevirtual 76, 3) := by decide +kernel
theorem dX6_finesBy_55 : decode cX6_finesBy 55 = .ok (.goto 4, 3) := by decide +kernel
theorem dX6_finesBy_58 : decode cX6_finesBy 58 = .ok (.iconst 0, 1) := by decide +kernel
theorem dX6_finesBy_59 : decode cX6_finesBy 59 = .ok (.iadd, 1) := by decide +kernel
theorem dX6_finesBy_60 : decode cX6_finesBy 60 = .ok (.istore_n 2, 1) := by decide +kernel
theorem dX6_finesBy_61 : decode cX6_finesBy 61 = .ok (.iinc 4 1, 3) := by decide +kernel
theorem dX6_finesBy_64 : decode cX6_finesBy 64 = .ok (.goto (-47), 3) := by decide +kernel
theorem dX6_finesBy_67 : decode cX6_finesBy 67 = .ok (.iinc 3 1, 3) := by decide +kernel
theorem dX6_finesBy_70 : decode cX6_finesBy 70 = .ok (.goto (-66), 3) := by decide +kernel
theorem dX6_finesBy_73 : decode cX6_finesBy 73 = .ok (.iload_n 2, 1) := by decide +kernel
theorem dX6_finesBy_74 : decode cX6_finesBy 74 = .ok (.ireturn, 1) := by decide +kernel
theorem dX6_ruling_0 : decode cX6_ruling 0 = .ok (.aload_n 0, 1) := by decide +kernel
theorem dX6_ruling_1 : decode cX6_ruling 1 = .ok (.iload_n 1, 1) := by decide +kernel
theorem dX6_ruling_2 : decode cX6_ruling 2 = .ok (.invokevirtual 118, 3) := by decide +kernel
theorem dX6_ruling_5 : decode cX6_ruling 5 = .ok (.ifCond .ne 5, 3) := by decide +kernel
theorem dX6_ruling_8 : decode cX6_ruling 8 = .ok (.iconst (-1), 1) := by decide +kernel
theorem dX6_ruling_9 : decode cX6_ruling 9 = .ok (.ireturn, 1) := by decide +kernel
theorem dX6_ruling_10 : decode cX6_ruling 10 = .ok (.iload_n 2, 1) := by decide +kernel
theorem dX6_ruling_11 : decode cX6_ruling 11 = .ok (.tableswitch 119 0 8 #[49, 49, 49, 49, 56, 79, 93, 107, 113], 49) := by decide +kernel
theorem dX6_ruling_60 : decode cX6_ruling 60 = .ok (.aload_n 0, 1) := by decide +kernel
theorem dX6_ruling_61 : decode cX6_ruling 61 = .ok (.iload_n 1, 1) := by decide +kernel
theorem dX6_ruling_62 : decode cX6_ruling 62 = .ok (.iload_n 2, 1) := by decide +kernel
theorem dX6_ruling_63 : decode cX6_ruling 63 = .ok (.invokevirtual 46, 3) := by decide +kernel
theorem dX6_ruling_66 : decode cX6_ruling 66 = .ok (.ireturn, 1) := by decide +kernel
theorem dX6_ruling_67 : decode cX6_ruling 67 = .ok (.aload_n 0, 1) := by decide +kernel
theorem dX6_ruling_68 : decode cX6_ruling 68 = .ok (.iload_n 1, 1) := by decide +kernel
theorem dX6_ruling_69 : decode cX6_ruling 69 = .ok (.iconst 4, 1) := by decide +kernel
theorem dX6_ruling_70 : decode cX6_ruling 70 = .ok (.invokevirtual 46, 3) := by decide +kernel
theorem dX6_ruling_73 : decode cX6_ruling 73 = .ok (.ifCond .ne 8, 3) := by decide +kernel
theorem dX6_ruling_76 : decode cX6_ruling 76 = .ok (.bipush (-4), 2) := by decide +kernel
theorem dX6_ruling_78 : decode cX6_ruling 78 = .ok (.goto 11, 3) := by decide +kernel
theorem dX6_ruling_81 : decode cX6_ruling 81 = .ok (.aload_n 0, 1) := by decide +kernel
theorem dX6_ruling_82 : decode cX6_ruling 82 = .ok (.iload_n 1, 1) := by decide +kernel
theorem dX6_ruling_83 : decode cX6_ruling 83 = .ok (.iconst 4, 1) := by decide +kernel
theorem dX6_ruling_84 : decode cX6_ruling 84 = .ok (.invokevirtual 46, 3) := by decide +kernel
theorem dX6_ruling_87 : decode cX6_ruling 87 = .ok (.iconst 1, 1) := by decide +kernel
theorem dX6_ruling_88 : decode cX6_ruling 88 = .ok (.isub, 1) := by decide +kernel
theorem dX6_ruling_89 : decode cX6_ruling 89 = .ok (.ireturn, 1) := by decide +kernel
theorem dX6_ruling_90 : decode cX6_ruling 90 = .ok (.aload_n 0, 1) := by decide +kernel
theorem dX6_ruling_91 : decode cX6_ruling 91 = .ok (.iload_n 1, 1) := by decide +kernel
theorem dX6_ruling_92 : decode cX6_ruling 92 = .ok (.invokevirtual 50, 3) := by decide +kernel
theorem dX6_ruling_95 : decode cX6_ruling 95 = .ok (.ifCond .eq 7, 3) := by decide +kernel
theorem dX6_ruling_98 : decode cX6_ruling 98 = .ok (.iconst 1, 1) := by decide +kernel
theorem dX6_ruling_99 : decode cX6_ruling 99 = .ok (.goto 4, 3) := by decide +kernel
theorem dX6_ruling_102 : decode cX6_ruling 102 = .ok (.iconst 0, 1) := by decide +kernel
theorem dX6_ruling_103 : decode cX6_ruling 103 = .ok (.ireturn, 1) := by decide +kernel
theorem dX6_ruling_104 : decode cX6_ruling 104 = .ok (.aload_n 0, 1) := by decide +kernel
theorem dX6_ruling_105 : decode cX6_ruling 105 = .ok (.iload_n 1, 1) := by decide +kernel
theorem dX6_ruling_106 : decode cX6_ruling 106 = .ok (.invokevirtual 195, 3) := by decide +kernel
theorem dX6_ruling_109 : decode cX6_ruling 109 = .ok (.ifCond .eq 7, 3) := by decide +kernel
theorem dX6_ruling_112 : decode cX6_ruling 112 = .ok (.iconst 1, 1) := by decide +kernel
theorem dX6_ruling_113 : decode cX6_ruling 113 = .ok (.goto 4, 3) := by decide +kernel
theorem dX6_ruling_116 : decode cX6_ruling 116 = .ok (.iconst 0, 1) := by decide +kernel
theorem dX6_ruling_117 : decode cX6_ruling 117 = .ok (.ireturn, 1) := by decide +kernel
theorem dX6_ruling_118 : decode cX6_ruling 118 = .ok (.aload_n 0, 1) := by decide +kernel
theorem dX6_ruling_119 : decode cX6_ruling 119 = .ok (.iload_n 1, 1) := by decide +kernel
theorem dX6_ruling_120 : decode cX6_ruling 120 = .ok (.invokevirtual 198, 3) := by decide +kernel
theorem dX6_ruling_123 : decode cX6_ruling 123 = .ok (.ireturn, 1) := by decide +kernel
theorem dX6_ruling_124 : decode cX6_ruling 124 = .ok (.aload_n 0, 1) := by decide +kernel
theorem dX6_ruling_125 : decode cX6_ruling 125 = .ok (.iload_n 1, 1) := by decide +kernel
theorem dX6_ruling_126 : decode cX6_ruling 126 = .ok (.invokevirtual 201, 3) := by decide +kernel
theorem dX6_ruling_129 : decode cX6_ruling 129 = .ok (.ireturn, 1) := by decide +kernel
theorem dX6_ruling_130 : decode cX6_ruling 130 = .ok (.iconst (-1), 1) := by decide +kernel
theorem dX6_ruling_131 : decode cX6_ruling 131 = .ok (.ireturn, 1) := by decide +kernel
theorem dX6_whyNot_0 : decode cX6_whyNot 0 = .ok (.aload_n 0, 1) := by decide +kernel
theorem dX6_whyNot_1 : decode cX6_whyNot 1 = .ok (.iload_n 1, 1) := by decide +kernel
theorem dX6_whyNot_2 : decode cX6_whyNot 2 = .ok (.iload_n 2, 1) := by decide +kernel
theorem dX6_whyNot_3 : decode cX6_whyNot 3 = .ok (.invokevirtual 129, 3) := by decide +kernel
theorem dX6_whyNot_6 : decode cX6_whyNot 6 = .ok (.ifCond .eq 12, 3) := by decide +kernel
theorem dX6_whyNot_9 : decode cX6_whyNot 9 = .ok (.aload_n 0, 1) := by decide +kernel
theorem dX6_whyNot_10 : decode cX6_whyNot 10 = .ok (.iload_n 1, 1) := by decide +kernel
theorem dX6_whyNot_11 : decode cX6_whyNot 11 = .ok (.iload_n 2, 1) := by decide +kernel
theorem dX6_whyNot_12 : decode cX6_whyNot 12 = .ok (.invokevirtual 102, 3) := by decide +kernel
theorem dX6_whyNot_15 : decode cX6_whyNot 15 = .ok (.goto 4, 3) := by decide +kernel
theorem dX6_whyNot_18 : decode cX6_whyNot 18 = .ok (.iconst (-1), 1) := by decide +kernel
theorem dX6_whyNot_19 : decode cX6_whyNot 19 = .ok (.ireturn, 1) := by decide +kernel
theorem dX6_laysFines_0 : decode cX6_laysFines 0 = .ok (.iconst 0, 1) := by decide +kernel
theorem dX6_laysFines_1 : decode cX6_laysFines 1 = .ok (.istore_n 2, 1) := by decide +kernel
theorem dX6_laysFines_2 : decode cX6_laysFines 2 = .ok (.iload_n 2, 1) := by decide +kernel
theorem dX6_laysFines_3 : decode cX6_laysFines 3 = .ok (.iconst 1, 1) := by decide +kernel
theorem dX6_laysFines_4 : decode cX6_laysFines 4 = .ok (.iadd, 1) := by decide +kernel
theorem dX6_laysFines_5 : decode cX6_laysFines 5 = .ok (.aload_n 0, 1) := by decide +kernel
theorem dX6_laysFines_6 : decode cX6_laysFines 6 = .ok (.iload_n 1, 1) := by decide +kernel
theorem dX6_laysFines_7 : decode cX6_laysFines 7 = .ok (.iconst 0, 1) := by decide +kernel
theorem dX6_laysFines_8 : decode cX6_laysFines 8 = .ok (.invokevirtual 60, 3) := by decide +kernel
theorem dX6_laysFines_11 : decode cX6_laysFines 11 = .ok (.if_icmp .ge 37, 3) := by decide +kernel
theorem dX6_laysFines_14 : decode cX6_laysFines 14 = .ok (.aload_n 0, 1) := by decide +kernel
theorem dX6_laysFines_15 : decode cX6_laysFines 15 = .ok (.getfield 25, 3) := by decide +kernel
theorem dX6_laysFines_18 : decode cX6_laysFines 18 = .ok (.iload_n 2, 1) := by decide +kernel
theorem dX6_laysFines_19 : decode cX6_laysFines 19 = .ok (.aload_n 0, 1) := by decide +kernel
theorem dX6_laysFines_20 : decode cX6_laysFines 20 = .ok (.iload_n 1, 1) := by decide +kernel
theorem dX6_laysFines_21 : decode cX6_laysFines 21 = .ok (.iload_n 2, 1) := by decide +kernel
theorem dX6_laysFines_22 : decode cX6_laysFines 22 = .ok (.iconst 0, 1) := by decide +kernel
theorem dX6_laysFines_23 : decode cX6_laysFines 23 = .ok (.invokevirtual 76, 3) := by decide +kernel
theorem dX6_laysFines_26 : decode cX6_laysFines 26 = .ok (.iastore, 1) := by decide +kernel
theorem dX6_laysFines_27 : decode cX6_laysFines 27 = .ok (.aload_n 0, 1) := by decide +kernel
theorem dX6_laysFines_28 : decode cX6_laysFines 28 = .ok (.getfield 28, 3) := by decide +kernel
theorem dX6_laysFines_31 : decode cX6_laysFines 31 = .ok (.iload_n 2, 1) := by decide +kernel
theorem dX6_laysFines_32 : decode cX6_laysFines 32 = .ok (.aload_n 0, 1) := by decide +kernel
theorem dX6_laysFines_33 : decode cX6_laysFines 33 = .ok (.iload_n 1, 1) := by decide +kernel
theorem dX6_laysFines_34 : decode cX6_laysFines 34 = .ok (.iload_n 2, 1) := by decide +kernel
theorem dX6_laysFines_35 : decode cX6_laysFines 35 = .ok (.iconst 1, 1) := by decide +kernel
theorem dX6_laysFines_36 : decode cX6_laysFines 36 = .ok (.iload_n 2, 1) := by decide +kernel
theorem dX6_laysFines_37 : decode cX6_laysFines 37 = .ok (.ishl, 1) := by decide +kernel
theorem dX6_laysFines_38 : decode cX6_laysFines 38 = .ok (.invokevirtual 76, 3) := by decide +kernel
theorem dX6_laysFines_41 : decode cX6_laysFines 41 = .ok (.iastore, 1) := by decide +kernel
theorem dX6_laysFines_42 : decode cX6_laysFines 42 = .ok (.iinc 2 1, 3) := by decide +kernel
theorem dX6_laysFines_45 : decode cX6_laysFines 45 = .ok (.goto (-43), 3) := by decide +kernel
theorem dX6_laysFines_48 : decode cX6_laysFines 48 = .ok (.return_, 1) := by decide +kernel
theorem dX6_fastCost_0 : decode cX6_fastCost 0 = .ok (.aload_n 0, 1) := by decide +kernel
theorem dX6_fastCost_1 : decode cX6_fastCost 1 = .ok (.iload_n 1, 1) := by decide +kernel
theorem dX6_fastCost_2 : decode cX6_fastCost 2 = .ok (.iload_n 2, 1) := by decide +kernel
theorem dX6_fastCost_3 : decode cX6_fastCost 3 = .ok (.invokevirtual 80, 3) := by decide +kernel
theorem dX6_fastCost_6 : decode cX6_fastCost 6 = .ok (.istore_n 3, 1) := by decide +kernel
theorem dX6_fastCost_7 : decode cX6_fastCost 7 = .ok (.iconst 0, 1) := by decide +kernel
theorem dX6_fastCost_8 : decode cX6_fastCost 8 = .ok (.istore 4, 2) := by decide +kernel
theorem dX6_fastCost_10 : decode cX6_fastCost 10 = .ok (.iload 4, 2) := by decide +kernel
theorem dX6_fastCost_12 : decode cX6_fastCost 12 = .ok (.iconst 1, 1) := by decide +kernel
theorem dX6_fastCost_13 : decode cX6_fastCost 13 = .ok (.iadd, 1) := by decide +kernel
theorem dX6_fastCost_14 : decode cX6_fastCost 14 = .ok (.aload_n 0, 1) := by decide +kernel
theorem dX6_fastCost_15 : decode cX6_fastCost 15 = .ok (.iload_n 1, 1) := by decide +kernel
theorem dX6_fastCost_16 : decode cX6_fastCost 16 = .ok (.iconst 0, 1) := by decide +kernel
theorem dX6_fastCost_17 : decode cX6_fastCost 17 = .ok (.invokevirtual 60, 3) := by decide +kernel
theorem dX6_fastCost_20 : decode cX6_fastCost 20 = .ok (.if_icmp .ge 39, 3) := by decide +kernel
theorem dX6_fastCost_23 : decode cX6_fastCost 23 = .ok (.iload_n 3, 1) := by decide +kernel
theorem dX6_fastCost_24 : decode cX6_fastCost 24 = .ok (.iload_n 2, 1) := by decide +kernel
theorem dX6_fastCost_25 : decode cX6_fastCost 25 = .ok (.iload 4, 2) := by decide +kernel
theorem dX6_fastCost_27 : decode cX6_fastCost 27 = .ok (.ishr, 1) := by decide +kernel
theorem dX6_fastCost_28 : decode cX6_fastCost 28 = .ok (.iconst 1, 1) := by decide +kernel
theorem dX6_fastCost_29 : decode cX6_fastCost 29 = .ok (.iand, 1) := by decide +kernel
theorem dX6_fastCost_30 : decode cX6_fastCost 30 = .ok (.iconst 1, 1) := by decide +kernel
theorem dX6_fastCost_31 : decode cX6_fastCost 31 = .ok (.if_icmp .ne 13, 3) := by decide +kernel
theorem dX6_fastCost_34 : decode cX6_fastCost 34 = .ok (.aload_n 0, 1) := by decide +kernel
theorem dX6_fastCost_35 : decode cX6_fastCost 35 = .ok (.getfield 28, 3) := by decide +kernel
theorem dX6_fastCost_38 : decode cX6_fastCost 38 = .ok (.iload 4, 2) := by decide +kernel
theorem dX6_fastCost_40 : decode cX6_fastCost 40 = .ok (.iaload, 1) := by decide +kernel
theorem dX6_fastCost_41 : decode cX6_fastCost 41 = .ok (.goto 10, 3) := by decide +kernel
theorem dX6_fastCost_44 : decode cX6_fastCost 44 = .ok (.aload_n 0, 1) := by decide +kernel
theorem dX6_fastCost_45 : decode cX6_fastCost 45 = .ok (.getfield 25, 3) := by decide +kernel
theorem dX6_fastCost_48 : decode cX6_fastCost 48 = .ok (.iload 4, 2) := by decide +kernel
theorem dX6_fastCost_50 : decode cX6_fastCost 50 = .ok (.iaload, 1) := by decide +kernel
theorem dX6_fastCost_51 : decode cX6_fastCost 51 = .ok (.iadd, 1) := by decide +kernel
theorem dX6_fastCost_52 : decode cX6_fastCost 52 = .ok (.istore_n 3, 1) := by decide +kernel
theorem dX6_fastCost_53 : decode cX6_fastCost 53 = .ok (.iinc 4 1, 3) := by decide +kernel
theorem dX6_fastCost_56 : decode cX6_fastCost 56 = .ok (.goto (-46), 3) := by decide +kernel
theorem dX6_fastCost_59 : decode cX6_fastCost 59 = .ok (.iload_n 3, 1) := by decide +kernel
theorem dX6_fastCost_60 : decode cX6_fastCost 60 = .ok (.ireturn, 1) := by decide +kernel
theorem dX6_bestSet_0 : decode cX6_bestSet 0 = .ok (.aload_n 0, 1) := by decide +kernel
theorem dX6_bestSet_1 : decode cX6_bestSet 1 = .ok (.iload_n 1, 1) := by decide +kernel
theorem dX6_bestSet_2 : decode cX6_bestSet 2 = .ok (.invokevirtual 204, 3) := by decide +kernel
theorem dX6_bestSet_5 : decode cX6_bestSet 5 = .ok (.iconst 0, 1) := by decide +kernel
theorem dX6_bestSet_6 : decode cX6_bestSet 6 = .ok (.istore_n 2, 1) := by decide +kernel
theorem dX6_bestSet_7 : decode cX6_bestSet 7 = .ok (.aload_n 0, 1) := by decide +kernel
theorem dX6_bestSet_8 : decode cX6_bestSet 8 = .ok (.iload_n 1, 1) := by decide +kernel
theorem dX6_bestSet_9 : decode cX6_bestSet 9 = .ok (.iconst 0, 1) := by decide +kernel
theorem dX6_bestSet_10 : decode cX6_bestSet 10 = .ok (.invokevirtual 208, 3) := by decide +kernel
theorem dX6_bestSet_13 : decode cX6_bestSet 13 = .ok (.istore_n 3, 1) := by decide +kernel
theorem dX6_bestSet_14 : decode cX6_bestSet 14 = .ok (.iconst 1, 1) := by decide +kernel
theorem dX6_bestSet_15 : decode cX6_bestSet 15 = .ok (.istore 4, 2) := by decide +kernel
theorem dX6_bestSet_17 : decode cX6_bestSet 17 = .ok (.iload 4, 2) := by decide +kernel
theorem dX6_bestSet_19 : decode cX6_bestSet 19 = .ok (.iconst 1, 1) := by decide +kernel
theorem dX6_bestSet_20 : decode cX6_bestSet 20 = .ok (.aload_n 0, 1) := by decide +kernel
theorem dX6_bestSet_21 : decode cX6_bestSet 21 = .ok (.iload_n 1, 1) := by decide +kernel
theorem dX6_bestSet_22 : decode cX6_bestSet 22 = .ok (.iconst 0, 1) := by decide +kernel
theorem dX6_bestSet_23 : decode cX6_bestSet 23 = .ok (.invokevirtual 60, 3) := by decide +kernel
theorem dX6_bestSet_26 : decode cX6_bestSet 26 = .ok (.iconst 1, 1) := by decide +kernel
theorem dX6_bestSet_27 : decode cX6_bestSet 27 = .ok (.isub, 1) := by decide +kernel
theorem dX6_bestSet_28 : decode cX6_bestSet 28 = .ok (.ishl, 1) := by decide +kernel
theorem dX6_bestSet_29 : decode cX6_bestSet 29 = .ok (.if_icmp .ge 73, 3) := by decide +kernel
theorem dX6_bestSet_32 : decode cX6_bestSet 32 = .ok (.aload_n 0, 1) := by decide +kernel
theorem dX6_bestSet_33 : decode cX6_bestSet 33 = .ok (.iload_n 1, 1) := by decide +kernel
theorem dX6_bestSet_34 : decode cX6_bestSet 34 = .ok (.iload 4, 2) := by decide +kernel
theorem dX6_bestSet_36 : decode cX6_bestSet 36 = .ok (.invokevirtual 208, 3) := by decide +kernel
theorem dX6_bestSet_39 : decode cX6_bestSet 39 = .ok (.istore 5, 2) := by decide +kernel
theorem dX6_bestSet_41 : decode cX6_bestSet 41 = .ok (.iload 5, 2) := by decide +kernel
theorem dX6_bestSet_43 : decode cX6_bestSet 43 = .ok (.iload_n 3, 1) := by decide +kernel
theorem dX6_bestSet_44 : decode cX6_bestSet 44 = .ok (.if_icmp .lt 21, 3) := by decide +kernel
theorem dX6_bestSet_47 : decode cX6_bestSet 47 = .ok (.iload 5, 2) := by decide +kernel
theorem dX6_bestSet_49 : decode cX6_bestSet 49 = .ok (.iload_n 3, 1) := by decide +kernel
theorem dX6_bestSet_50 : decode cX6_bestSet 50 = .ok (.if_icmp .ne 19, 3) := by decide +kernel
theorem dX6_bestSet_53 : decode cX6_bestSet 53 = .ok (.iload 4, 2) := by decide +kernel
theorem dX6_bestSet_55 : decode cX6_bestSet 55 = .ok (.invokestatic 189, 3) := by decide +kernel
theorem dX6_bestSet_58 : decode cX6_bestSet 58 = .ok (.iload_n 2, 1) := by decide +kernel
theorem dX6_bestSet_59 : decode cX6_bestSet 59 = .ok (.invokestatic 189, 3) := by decide +kernel
theorem dX6_bestSet_62 : decode cX6_bestSet 62 = .ok (.if_icmp .ge 7, 3) := by decide +kernel
theorem dX6_bestSet_65 : decode cX6_bestSet 65 = .ok (.iconst 1, 1) := by decide +kernel
theorem dX6_bestSet_66 : decode cX6_bestSet 66 = .ok (.goto 4, 3) := by decide +kernel
theorem dX6_bestSet_69 : decode cX6_bestSet 69 = .ok (.iconst 0, 1) := by decide +kernel
theorem dX6_bestSet_70 : decode cX6_bestSet 70 = .ok (.istore 6, 2) := by decide +kernel
theorem dX6_bestSet_72 : decode cX6_bestSet 72 = .ok (.iload 6, 2) := by decide +kernel
theorem dX6_bestSet_74 : decode cX6_bestSet 74 = .ok (.ifCond .eq 8, 3) := by decide +kernel
theorem dX6_bestSet_77 : decode cX6_bestSet 77 = .ok (.iload 4, 2) := by decide +kernel
theorem dX6_bestSet_79 : decode cX6_bestSet 79 = .ok (.goto 4, 3) := by decide +kernel
theorem dX6_bestSet_82 : decode cX6_bestSet 82 = .ok (.iload_n 2, 1) := by decide +kernel
theorem dX6_bestSet_83 : decode cX6_bestSet 83 = .ok (.istore_n 2, 1) := by decide +kernel
theorem dX6_bestSet_84 : decode cX6_bestSet 84 = .ok (.iload 6, 2) := by decide +kernel
theorem dX6_bestSet_86 : decode cX6_bestSet 86 = .ok (.ifCond .eq 8, 3) := by decide +kernel
theorem dX6_bestSet_89 : decode cX6_bestSet 89 = .ok (.iload 5, 2) := by decide +kernel
theorem dX6_bestSet_91 : decode cX6_bestSet 91 = .ok (.goto 4, 3) := by decide +kernel
theorem dX6_bestSet_94 : decode cX6_bestSet 94 = .ok (.iload_n 3, 1) := by decide +kernel
theorem dX6_bestSet_95 : decode cX6_bestSet 95 = .ok (.istore_n 3, 1) := by decide +kernel
theorem dX6_bestSet_96 : decode cX6_bestSet 96 = .ok (.iinc 4 1, 3) := by decide +kernel
theorem dX6_bestSet_99 : decode cX6_bestSet 99 = .ok (.goto (-82), 3) := by decide +kernel
theorem dX6_bestSet_102 : decode cX6_bestSet 102 = .ok (.iload_n 2, 1) := by decide +kernel
theorem dX6_bestSet_103 : decode cX6_bestSet 103 = .ok (.ireturn, 1) := by decide +kernel
theorem dX6_best_0 : decode cX6_best 0 = .ok (.aload_n 0, 1) := by decide +kernel
theorem dX6_best_1 : decode cX6_best 1 = .ok (.iload_n 1, 1) := by decide +kernel
theorem dX6_best_2 : decode cX6_best 2 = .ok (.invokevirtual 57, 3) := by decide +kernel
theorem dX6_best_5 : decode cX6_best 5 = .ok (.ifCond .eq 21, 3) := by decide +kernel
theorem dX6_best_8 : decode cX6_best 8 = .ok (.iload_n 2, 1) := by decide +kernel
theorem dX6_best_9 : decode cX6_best 9 = .ok (.iconst 0, 1) := by decide +kernel
theorem dX6_best_10 : decode cX6_best 10 = .ok (.iconst 2, 1) := by decide +kernel
theorem dX6_best_11 : decode cX6_best 11 = .ok (.invokestatic 42, 3) := by decide +kernel
theorem dX6_best_14 : decode cX6_best 14 = .ok (.ifCond .eq 12, 3) := by decide +kernel
theorem dX6_best_17 : decode cX6_best 17 = .ok (.iload_n 3, 1) := by decide +kernel
theorem dX6_best_18 : decode cX6_best 18 = .ok (.iconst 0, 1) := by decide +kernel
theorem dX6_best_19 : decode cX6_best 19 = .ok (.iconst 1, 1) := by decide +kernel
theorem dX6_best_20 : decode cX6_best 20 = .ok (.invokestatic 42, 3) := by decide +kernel
theorem dX6_best_23 : decode cX6_best 23 = .ok (.ifCond .ne 5, 3) := by decide +kernel
theorem dX6_best_26 : decode cX6_best 26 = .ok (.iconst (-1), 1) := by decide +kernel
theorem dX6_best_27 : decode cX6_best 27 = .ok (.ireturn, 1) := by decide +kernel
theorem dX6_best_28 : decode cX6_best 28 = .ok (.aload_n 0, 1) := by decide +kernel
theorem dX6_best_29 : decode cX6_best 29 = .ok (.iload_n 1, 1) := by decide +kernel
theorem dX6_best_30 : decode cX6_best 30 = .ok (.invokevirtual 211, 3) := by decide +kernel
theorem dX6_best_33 : decode cX6_best 33 = .ok (.istore 4, 2) := by decide +kernel
theorem dX6_best_35 : decode cX6_best 35 = .ok (.iload_n 2, 1) := by decide +kernel
theorem dX6_best_36 : decode cX6_best 36 = .ok (.ifCond .ne 8, 3) := by decide +kernel
theorem dX6_best_39 : decode cX6_best 39 = .ok (.iload 4, 2) := by decide +kernel
theorem dX6_best_41 : decode cX6_best 41 = .ok (.goto 23, 3) := by decide +kernel
theorem dX6_best_44 : decode cX6_best 44 = .ok (.iload_n 2, 1) := by decide +kernel
theorem dX6_best_45 : decode cX6_best 45 = .ok (.iconst 1, 1) := by decide +kernel
theorem dX6_best_46 : decode cX6_best 46 = .ok (.if_icmp .ne 13, 3) := by decide +kernel
theorem dX6_best_49 : decode cX6_best 49 = .ok (.aload_n 0, 1) := by decide +kernel
theorem dX6_best_50 : decode cX6_best 50 = .ok (.iload_n 1, 1) := by decide +kernel
theorem dX6_best_51 : decode cX6_best 51 = .ok (.iload 4, 2) := by decide +kernel
theorem dX6_best_53 : decode cX6_best 53 = .ok (.invokevirtual 86, 3) := by decide +kernel
theorem dX6_best_56 : decode cX6_best 56 = .ok (.goto 8, 3) := by decide +kernel
theorem dX6_best_59 : decode cX6_best 59 = .ok (.iload 4, 2) := by decide +kernel
theorem dX6_best_61 : decode cX6_best 61 = .ok (.invokestatic 189, 3) := by decide +kernel
theorem dX6_best_64 : decode cX6_best 64 = .ok (.ireturn, 1) := by decide +kernel
theorem dX6_splits_0 : decode cX6_splits 0 = .ok (.aload_n 0, 1) := by decide +kernel
theorem dX6_splits_1 : decode cX6_splits 1 = .ok (.iload_n 1, 1) := by decide +kernel
theorem dX6_splits_2 : decode cX6_splits 2 = .ok (.iconst 0, 1) := by decide +kernel
theorem dX6_splits_3 : decode cX6_splits 3 = .ok (.invokevirtual 60, 3) := by decide +kernel
theorem dX6_splits_6 : decode cX6_splits 6 = .ok (.istore_n 2, 1) := by decide +kernel
theorem dX6_splits_7 : decode cX6_splits 7 = .ok (.aload_n 0, 1) := by decide +kernel
theorem dX6_splits_8 : decode cX6_splits 8 = .ok (.getfield 31, 3) := by decide +kernel
theorem dX6_splits_11 : decode cX6_splits 11 = .ok (.iconst 0, 1) := by decide +kernel
theorem dX6_splits_12 : decode cX6_splits 12 = .ok (.iconst 1, 1) := by decide +kernel
theorem dX6_splits_13 : decode cX6_splits 13 = .ok (.iastore, 1) := by decide +kernel
theorem dX6_splits_14 : decode cX6_splits 14 = .ok (.iconst 1, 1) := by decide +kernel
theorem dX6_splits_15 : decode cX6_splits 15 = .ok (.istore_n 3, 1) := by decide +kernel
theorem dX6_splits_16 : decode cX6_splits 16 = .ok (.iload_n 3, 1) := by decide +kernel
theorem dX6_splits_17 : decode cX6_splits 17 = .ok (.iload_n 2, 1) := by decide +kernel
theorem dX6_splits_18 : decode cX6_splits 18 = .ok (.if_icmp .gt 78, 3) := by decide +kernel
theorem dX6_splits_21 : decode cX6_splits 21 = .ok (.iconst 0, 1) := by decide +kernel
theorem dX6_splits_22 : decode cX6_splits 22 = .ok (.istore 4, 2) := by decide +kernel
theorem dX6_splits_24 : decode cX6_splits 24 = .ok (.aload_n 0, 1) := by decide +kernel
theorem dX6_splits_25 : decode cX6_splits 25 = .ok (.getfield 31, 3) := by decide +kernel
theorem dX6_splits_28 : decode cX6_splits 28 = .ok (.iload_n 3, 1) := by decide +kernel
theorem dX6_splits_29 : decode cX6_splits 29 = .ok (.iconst 0, 1) := by decide +kernel
theorem dX6_splits_30 : decode cX6_splits 30 = .ok (.iastore, 1) := by decide +kernel
theorem dX6_splits_31 : decode cX6_splits 31 = .ok (.iload_n 3, 1) := by decide +kernel
theorem dX6_splits_32 : decode cX6_splits 32 = .ok (.iconst 1, 1) := by decide +kernel
theorem dX6_splits_33 : decode cX6_splits 33 = .ok (.isub, 1) := by decide +kernel
theorem dX6_splits_34 : decode cX6_splits 34 = .ok (.istore 5, 2) := by decide +kernel
theorem dX6_splits_36 : decode cX6_splits 36 = .ok (.iload 5, 2) := by decide +kernel
theorem dX6_splits_38 : decode cX6_splits 38 = .ok (.ifCond .lt 52, 3) := by decide +kernel
theorem dX6_splits_41 : decode cX6_splits 41 = .ok (.iload 4, 2) := by decide +kernel
theorem dX6_splits_43 : decode cX6_splits 43 = .ok (.aload_n 0, 1) := by decide +kernel
theorem dX6_splits_44 : decode cX6_splits 44 = .ok (.iload_n 1, 1) := by decide +kernel
theorem dX6_splits_45 : decode cX6_splits 45 = .ok (.iload 5, 2) := by decide +kernel
theorem dX6_splits_47 : decode cX6_splits 47 = .ok (.invokevirtual 66, 3) := by decide +kernel
theorem dX6_splits_50 : decode cX6_splits 50 = .ok (.iadd, 1) := by decide +kernel
theorem dX6_splits_51 : decode cX6_splits 51 = .ok (.istore 4, 2) := by decide +kernel
theorem dX6_splits_53 : decode cX6_splits 53 = .ok (.aload_n 0, 1) := by decide +kernel
theorem dX6_splits_54 : decode cX6_splits 54 = .ok (.getfield 31, 3) := by decide +kernel
theorem dX6_splits_57 : decode cX6_splits 57 = .ok (.iload_n 3, 1) := by decide +kernel
theorem dX6_splits_58 : decode cX6_splits 58 = .ok (.dup2, 1) := by decide +kernel
theorem dX6_splits_59 : decode cX6_splits 59 = .ok (.iaload, 1) := by decide +kernel
theorem dX6_splits_60 : decode cX6_splits 60 = .ok (.iload 4, 2) := by decide +kernel
theorem dX6_splits_62 : decode cX6_splits 62 = .ok (.aload_n 0, 1) := by decide +kernel
theorem dX6_splits_63 : decode cX6_splits 63 = .ok (.getfield 7, 3) := by decide +kernel
theorem dX6_splits_66 : decode cX6_splits 66 = .ok (.iconst 2, 1) := by decide +kernel
theorem dX6_splits_67 : decode cX6_splits 67 = .ok (.iaload, 1) := by decide +kernel
theorem dX6_splits_68 : decode cX6_splits 68 = .ok (.if_icmp .gt 13, 3) := by decide +kernel
theorem dX6_splits_71 : decode cX6_splits 71 = .ok (.aload_n 0, 1) := by decide +kernel
theorem dX6_splits_72 : decode cX6_splits 72 = .ok (.getfield 31, 3) := by decide +kernel
theorem dX6_splits_75 : decode cX6_splits 75 = .ok (.iload 5, 2) := by decide +kernel
theorem dX6_splits_77 : decode cX6_splits 77 = .ok (.iaload, 1) := by decide +kernel
theorem dX6_splits_78 : decode cX6_splits 78 = .ok (.goto 4, 3) := by decide +kernel
theorem dX6_splits_81 : decode cX6_splits 81 = .ok (.iconst 0, 1) := by decide +kernel
theorem dX6_splits_82 : decode cX6_splits 82 = .ok (.iadd, 1) := by decide +kernel
theorem dX6_splits_83 : decode cX6_splits 83 = .ok (.iastore, 1) := by decide +kernel
theorem dX6_splits_84 : decode cX6_splits 84 = .ok (.iinc 5 (-1), 3) := by decide +kernel
theorem dX6_splits_87 : decode cX6_splits 87 = .ok (.goto (-51), 3) := by decide +kernel
theorem dX6_splits_90 : decode cX6_splits 90 = .ok (.iinc 3 1, 3) := by decide +kernel
theorem dX6_splits_93 : decode cX6_splits 93 = .ok (.goto (-77), 3) := by decide +kernel
theorem dX6_splits_96 : decode cX6_splits 96 = .ok (.aload_n 0, 1) := by decide +kernel
theorem dX6_splits_97 : decode cX6_splits 97 = .ok (.getfield 31, 3) := by decide +kernel
theorem dX6_splits_100 : decode cX6_splits 100 = .ok (.iload_n 2, 1) := by decide +kernel
theorem dX6_splits_101 : decode cX6_splits 101 = .ok (.iaload, 1) := by decide +kernel
theorem dX6_splits_102 : decode cX6_splits 102 = .ok (.ireturn, 1) := by decide +kernel
theorem dX6_ways_0 : decode cX6_ways 0 = .ok (.aload_n 0, 1) := by decide +kernel
theorem dX6_ways_1 : decode cX6_ways 1 = .ok (.iload_n 1, 1) := by decide +kernel
theorem dX6_ways_2 : decode cX6_ways 2 = .ok (.invokevirtual 57, 3) := by decide +kernel
theorem dX6_ways_5 : decode cX6_ways 5 = .ok (.ifCond .eq 20, 3) := by decide +kernel
theorem dX6_ways_8 : decode cX6_ways 8 = .ok (.iload_n 2, 1) := by decide +kernel
theorem dX6_ways_9 : decode cX6_ways 9 = .ok (.iconst 0, 1) := by decide +kernel
theorem dX6_ways_10 : decode cX6_ways 10 = .ok (.iconst 1, 1) := by decide +kernel
theorem dX6_ways_11 : decode cX6_ways 11 = .ok (.invokestatic 42, 3) := by decide +kernel
theorem dX6_ways_14 : decode cX6_ways 14 = .ok (.ifCond .eq 11, 3) := by decide +kernel
theorem dX6_ways_17 : decode cX6_ways 17 = .ok (.aload_n 0, 1) := by decide +kernel
theorem dX6_ways_18 : decode cX6_ways 18 = .ok (.iload_n 1, 1) := by decide +kernel
theorem dX6_ways_19 : decode cX6_ways 19 = .ok (.invokevirtual 214, 3) := by decide +kernel
theorem dX6_ways_22 : decode cX6_ways 22 = .ok (.goto 4, 3) := by decide +kernel
theorem dX6_ways_25 : decode cX6_ways 25 = .ok (.iconst (-1), 1) := by decide +kernel
theorem dX6_ways_26 : decode cX6_ways 26 = .ok (.ireturn, 1) := by decide +kernel
theorem dX6_stayed_0 : decode cX6_stayed 0 = .ok (.iconst 0, 1) := by decide +kernel
theorem dX6_stayed_1 : decode cX6_stayed 1 = .ok (.istore_n 1, 1) := by decide +kernel
theorem dX6_stayed_2 : decode cX6_stayed 2 = .ok (.iconst 0, 1) := by decide +kernel
theorem dX6_stayed_3 : decode cX6_stayed 3 = .ok (.istore_n 2, 1) := by decide +kernel
theorem dX6_stayed_4 : decode cX6_stayed 4 = .ok (.iload_n 2, 1) := by decide +kernel
theorem dX6_stayed_5 : decode cX6_stayed 5 = .ok (.aload_n 0, 1) := by decide +kernel
theorem dX6_stayed_6 : decode cX6_stayed 6 = .ok (.getfield 7, 3) := by decide +kernel
theorem dX6_stayed_9 : decode cX6_stayed 9 = .ok (.iconst 3, 1) := by decide +kernel
theorem dX6_stayed_10 : decode cX6_stayed 10 = .ok (.iaload, 1) := by decide +kernel
theorem dX6_stayed_11 : decode cX6_stayed 11 = .ok (.if_icmp .ge 25, 3) := by decide +kernel
theorem dX6_stayed_14 : decode cX6_stayed 14 = .ok (.iload_n 1, 1) := by decide +kernel
theorem dX6_stayed_15 : decode cX6_stayed 15 = .ok (.aload_n 0, 1) := by decide +kernel
theorem dX6_stayed_16 : decode cX6_stayed 16 = .ok (.iload_n 2, 1) := by decide +kernel
theorem dX6_stayed_17 : decode cX6_stayed 17 = .ok (.invokevirtual 96, 3) := by decide +kernel
theorem dX6_stayed_20 : decode cX6_stayed 20 = .ok (.ifCond .eq 7, 3) := by decide +kernel
theorem dX6_stayed_23 : decode cX6_stayed 23 = .ok (.iconst 1, 1) := by decide +kernel
theorem dX6_stayed_24 : decode cX6_stayed 24 = .ok (.goto 4, 3) := by decide +kernel
theorem dX6_stayed_27 : decode cX6_stayed 27 = .ok (.iconst 0, 1) := by decide +kernel
theorem dX6_stayed_28 : decode cX6_stayed 28 = .ok (.iadd, 1) := by decide +kernel
theorem dX6_stayed_29 : decode cX6_stayed 29 = .ok (.istore_n 1, 1) := by decide +kernel
theorem dX6_stayed_30 : decode cX6_stayed 30 = .ok (.iinc 2 1, 3) := by decide +kernel
theorem dX6_stayed_33 : decode cX6_stayed 33 = .ok (.goto (-29), 3) := by decide +kernel
theorem dX6_stayed_36 : decode cX6_stayed 36 = .ok (.iload_n 1, 1) := by decide +kernel
theorem dX6_stayed_37 : decode cX6_stayed 37 = .ok (.ireturn, 1) := by decide +kernel
theorem dX6_countingOnes_0 : decode cX6_countingOnes 0 = .ok (.iconst 0, 1) := by decide +kernel
theorem dX6_countingOnes_1 : decode cX6_countingOnes 1 = .ok (.istore_n 1, 1) := by decide +kernel
theorem dX6_countingOnes_2 : decode cX6_countingOnes 2 = .ok (.iconst 0, 1) := by decide +kernel
theorem dX6_countingOnes_3 : decode cX6_countingOnes 3 = .ok (.istore_n 2, 1) := by decide +kernel
theorem dX6_countingOnes_4 : decode cX6_countingOnes 4 = .ok (.iload_n 2, 1) := by decide +kernel
theorem dX6_countingOnes_5 : decode cX6_countingOnes 5 = .ok (.aload_n 0, 1) := by decide +kernel
theorem dX6_countingOnes_6 : decode cX6_countingOnes 6 = .ok (.getfield 7, 3) := by decide +kernel
theorem dX6_countingOnes_9 : decode cX6_countingOnes 9 = .ok (.iconst 4, 1) := by decide +kernel
theorem dX6_countingOnes_10 : decode cX6_countingOnes 10 = .ok (.iaload, 1) := by decide +kernel
theorem dX6_countingOnes_11 : decode cX6_countingOnes 11 = .ok (.if_icmp .ge 25, 3) := by decide +kernel
theorem dX6_countingOnes_14 : decode cX6_countingOnes 14 = .ok (.iload_n 1, 1) := by decide +kernel
theorem dX6_countingOnes_15 : decode cX6_countingOnes 15 = .ok (.aload_n 0, 1) := by decide +kernel
theorem dX6_countingOnes_16 : decode cX6_countingOnes 16 = .ok (.iload_n 2, 1) := by decide +kernel
theorem dX6_countingOnes_17 : decode cX6_countingOnes 17 = .ok (.invokevirtual 195, 3) := by decide +kernel
theorem dX6_countingOnes_20 : decode cX6_countingOnes 20 = .ok (.ifCond .eq 7, 3) := by decide +kernel
theorem dX6_countingOnes_23 : decode cX6_countingOnes 23 = .ok (.iconst 1, 1) := by decide +kernel
theorem dX6_countingOnes_24 : decode cX6_countingOnes 24 = .ok (.goto 4, 3) := by decide +kernel
theorem dX6_countingOnes_27 : decode cX6_countingOnes 27 = .ok (.iconst 0, 1) := by decide +kernel
theorem dX6_countingOnes_28 : decode cX6_countingOnes 28 = .ok (.iadd, 1) := by decide +kernel
theorem dX6_countingOnes_29 : decode cX6_countingOnes 29 = .ok (.istore_n 1, 1) := by decide +kernel
theorem dX6_countingOnes_30 : decode cX6_countingOnes 30 = .ok (.iinc 2 1, 3) := by decide +kernel
theorem dX6_countingOnes_33 : decode cX6_countingOnes 33 = .ok (.goto (-29), 3) := by decide +kernel
theorem dX6_countingOnes_36 : decode cX6_countingOnes 36 = .ok (.iload_n 1, 1) := by decide +kernel
theorem dX6_countingOnes_37 : decode cX6_countingOnes 37 = .ok (.ireturn, 1) := by decide +kernel
theorem dX6_allCommas_0 : decode cX6_allCommas 0 = .ok (.iconst 0, 1) := by decide +kernel
theorem dX6_allCommas_1 : decode cX6_allCommas 1 = .ok (.istore_n 1, 1) := by decide +kernel
theorem dX6_allCommas_2 : decode cX6_allCommas 2 = .ok (.iconst 0, 1) := by decide +kernel
theorem dX6_allCommas_3 : decode cX6_allCommas 3 = .ok (.istore_n 2, 1) := by decide +kernel
theorem dX6_allCommas_4 : decode cX6_allCommas 4 = .ok (.iload_n 2, 1) := by decide +kernel
theorem dX6_allCommas_5 : decode cX6_allCommas 5 = .ok (.aload_n 0, 1) := by decide +kernel
theorem dX6_allCommas_6 : decode cX6_allCommas 6 = .ok (.getfield 7, 3) := by decide +kernel
theorem dX6_allCommas_9 : decode cX6_allCommas 9 = .ok (.iconst 3, 1) := by decide +kernel
theorem dX6_allCommas_10 : decode cX6_allCommas 10 = .ok (.iaload, 1) := by decide +kernel
theorem dX6_allCommas_11 : decode cX6_allCommas 11 = .ok (.if_icmp .ge 21, 3) := by decide +kernel
theorem dX6_allCommas_14 : decode cX6_allCommas 14 = .ok (.iload_n 1, 1) := by decide +kernel
theorem dX6_allCommas_15 : decode cX6_allCommas 15 = .ok (.aload_n 0, 1) := by decide +kernel
theorem dX6_allCommas_16 : decode cX6_allCommas 16 = .ok (.iload_n 2, 1) := by decide +kernel
theorem dX6_allCommas_17 : decode cX6_allCommas 17 = .ok (.iconst 1, 1) := by decide +kernel
theorem dX6_allCommas_18 : decode cX6_allCommas 18 = .ok (.invokevirtual 60, 3) := by decide +kernel
theorem dX6_allCommas_21 : decode cX6_allCommas 21 = .ok (.invokestatic 189, 3) := by decide +kernel
theorem dX6_allCommas_24 : decode cX6_allCommas 24 = .ok (.iadd, 1) := by decide +kernel
theorem dX6_allCommas_25 : decode cX6_allCommas 25 = .ok (.istore_n 1, 1) := by decide +kernel
theorem dX6_allCommas_26 : decode cX6_allCommas 26 = .ok (.iinc 2 1, 3) := by decide +kernel
theorem dX6_allCommas_29 : decode cX6_allCommas 29 = .ok (.goto (-25), 3) := by decide +kernel
theorem dX6_allCommas_32 : decode cX6_allCommas 32 = .ok (.iload_n 1, 1) := by decide +kernel
theorem dX6_allCommas_33 : decode cX6_allCommas 33 = .ok (.ireturn, 1) := by decide +kernel
theorem dX6_cheapest_0 : decode cX6_cheapest 0 = .ok (.bipush (-4), 2) := by decide +kernel
theorem dX6_cheapest_2 : decode cX6_cheapest 2 = .ok (.istore_n 1, 1) := by decide +kernel
theorem dX6_cheapest_3 : decode cX6_cheapest 3 = .ok (.aload_n 0, 1) := by decide +kernel
theorem dX6_cheapest_4 : decode cX6_cheapest 4 = .ok (.getfield 7, 3) := by decide +kernel
theorem dX6_cheapest_7 : decode cX6_cheapest 7 = .ok (.iconst 3, 1) := by decide +kernel
theorem dX6_cheapest_8 : decode cX6_cheapest 8 = .ok (.iaload, 1) := by decide +kernel
theorem dX6_cheapest_9 : decode cX6_cheapest 9 = .ok (.iconst 1, 1) := by decide +kernel
theorem dX6_cheapest_10 : decode cX6_cheapest 10 = .ok (.isub, 1) := by decide +kernel
theorem dX6_cheapest_11 : decode cX6_cheapest 11 = .ok (.istore_n 2, 1) := by decide +kernel
theorem dX6_cheapest_12 : decode cX6_cheapest 12 = .ok (.iload_n 2, 1) := by decide +kernel
theorem dX6_cheapest_13 : decode cX6_cheapest 13 = .ok (.ifCond .lt 34, 3) := by decide +kernel
theorem dX6_cheapest_16 : decode cX6_cheapest 16 = .ok (.iload_n 1, 1) := by decide +kernel
theorem dX6_cheapest_17 : decode cX6_cheapest 17 = .ok (.bipush (-4), 2) := by decide +kernel
theorem dX6_cheapest_19 : decode cX6_cheapest 19 = .ok (.if_icmp .eq 16, 3) := by decide +kernel
theorem dX6_cheapest_22 : decode cX6_cheapest 22 = .ok (.aload_n 0, 1) := by decide +kernel
theorem dX6_cheapest_23 : decode cX6_cheapest 23 = .ok (.iload_n 2, 1) := by decide +kernel
theorem dX6_cheapest_24 : decode cX6_cheapest 24 = .ok (.invokevirtual 89, 3) := by decide +kernel
theorem dX6_cheapest_27 : decode cX6_cheapest 27 = .ok (.aload_n 0, 1) := by decide +kernel
theorem dX6_cheapest_28 : decode cX6_cheapest 28 = .ok (.iload_n 1, 1) := by decide +kernel
theorem dX6_cheapest_29 : decode cX6_cheapest 29 = .ok (.invokevirtual 89, 3) := by decide +kernel
theorem dX6_cheapest_32 : decode cX6_cheapest 32 = .ok (.if_icmp .gt 7, 3) := by decide +kernel
theorem dX6_cheapest_35 : decode cX6_cheapest 35 = .ok (.iload_n 2, 1) := by decide +kernel
theorem dX6_cheapest_36 : decode cX6_cheapest 36 = .ok (.goto 4, 3) := by decide +kernel
theorem dX6_cheapest_39 : decode cX6_cheapest 39 = .ok (.iload_n 1, 1) := by decide +kernel
theorem dX6_cheapest_40 : decode cX6_cheapest 40 = .ok (.istore_n 1, 1) := by decide +kernel
theorem dX6_cheapest_41 : decode cX6_cheapest 41 = .ok (.iinc 2 (-1), 3) := by decide +kernel
theorem dX6_cheapest_44 : decode cX6_cheapest 44 = .ok (.goto (-32), 3) := by decide +kernel
theorem dX6_cheapest_47 : decode cX6_cheapest 47 = .ok (.iload_n 1, 1) := by decide +kernel
theorem dX6_cheapest_48 : decode cX6_cheapest 48 = .ok (.ireturn, 1) := by decide +kernel
theorem dX6_count_0 : decode cX6_count 0 = .ok (.iload_n 1, 1) := by decide +kernel
theorem dX6_count_1 : decode cX6_count 1 = .ok (.tableswitch 163 0 14 #[75, 82, 89, 94, 99, 106, 111, 116, 123, 131, 136, 136, 148, 153, 158], 75) := by decide +kernel
theorem dX6_count_76 : decode cX6_count 76 = .ok (.aload_n 0, 1) := by decide +kernel
theorem dX6_count_77 : decode cX6_count 77 = .ok (.getfield 7, 3) := by decide +kernel
theorem dX6_count_80 : decode cX6_count 80 = .ok (.iconst 0, 1) := by decide +kernel
theorem dX6_count_81 : decode cX6_count 81 = .ok (.iaload, 1) := by decide +kernel
theorem dX6_count_82 : decode cX6_count 82 = .ok (.ireturn, 1) := by decide +kernel
theorem dX6_count_83 : decode cX6_count 83 = .ok (.aload_n 0, 1) := by decide +kernel
theorem dX6_count_84 : decode cX6_count 84 = .ok (.getfield 7, 3) := by decide +kernel
theorem dX6_count_87 : decode cX6_count 87 = .ok (.iconst 3, 1) := by decide +kernel
theorem dX6_count_88 : decode cX6_count 88 = .ok (.iaload, 1) := by decide +kernel
theorem dX6_count_89 : decode cX6_count 89 = .ok (.ireturn, 1) := by decide +kernel
theorem dX6_count_90 : decode cX6_count 90 = .ok (.aload_n 0, 1) := by decide +kernel
theorem dX6_count_91 : decode cX6_count 91 = .ok (.invokevirtual 217, 3) := by decide +kernel
theorem dX6_count_94 : decode cX6_count 94 = .ok (.ireturn, 1) := by decide +kernel
theorem dX6_count_95 : decode cX6_count 95 = .ok (.aload_n 0, 1) := by decide +kernel
theorem dX6_count_96 : decode cX6_count 96 = .ok (.invokevirtual 220, 3) := by decide +kernel
theorem dX6_count_99 : decode cX6_count 99 = .ok (.ireturn, 1) := by decide +kernel
theorem dX6_count_100 : decode cX6_count 100 = .ok (.aload_n 0, 1) := by decide +kernel
theorem dX6_count_101 : decode cX6_count 101 = .ok (.getfield 7, 3) := by decide +kernel
theorem dX6_count_104 : decode cX6_count 104 = .ok (.iconst 4, 1) := by decide +kernel
theorem dX6_count_105 : decode cX6_count 105 = .ok (.iaload, 1) := by decide +kernel
theorem dX6_count_106 : decode cX6_count 106 = .ok (.ireturn, 1) := by decide +kernel
theorem dX6_count_107 : decode cX6_count 107 = .ok (.aload_n 0, 1) := by decide +kernel
theorem dX6_count_108 : decode cX6_count 108 = .ok (.invokevirtual 125, 3) := by decide +kernel
theorem dX6_count_111 : decode cX6_count 111 = .ok (.ireturn, 1) := by decide +kernel
theorem dX6_count_112 : decode cX6_count 112 = .ok (.aload_n 0, 1) := by decide +kernel
theorem dX6_count_113 : decode cX6_count 113 = .ok (.invokevirtual 223, 3) := by decide +kernel
theorem dX6_count_116 : decode cX6_count 116 = .ok (.ireturn, 1) := by decide +kernel
theorem dX6_count_117 : decode cX6_count 117 = .ok (.aload_n 0, 1) := by decide +kernel
theorem dX6_count_118 : decode cX6_count 118 = .ok (.getfield 7, 3) := by decide +kernel
theorem dX6_count_121 : decode cX6_count 121 = .ok (.iconst 5, 1) := by decide +kernel
theorem dX6_count_122 : decode cX6_count 122 = .ok (.iaload, 1) := by decide +kernel
theorem dX6_count_123 : decode cX6_count 123 = .ok (.ireturn, 1) := by decide +kernel
theorem dX6_count_124 : decode cX6_count 124 = .ok (.aload_n 0, 1) := by decide +kernel
theorem dX6_count_125 : decode cX6_count 125 = .ok (.getfield 7, 3) := by decide +kernel
theorem dX6_count_128 : decode cX6_count 128 = .ok (.bipush 6, 2) := by decide +kernel
theorem dX6_count_130 : decode cX6_count 130 = .ok (.iaload, 1) := by decide +kernel
theorem dX6_count_131 : decode cX6_count 131 = .ok (.ireturn, 1) := by decide +kernel
theorem dX6_count_132 : decode cX6_count 132 = .ok (.aload_n 0, 1) := by decide +kernel
theorem dX6_count_133 : decode cX6_count 133 = .ok (.invokevirtual 226, 3) := by decide +kernel
theorem dX6_count_136 : decode cX6_count 136 = .ok (.ireturn, 1) := by decide +kernel
theorem dX6_count_137 : decode cX6_count 137 = .ok (.aload_n 0, 1) := by decide +kernel
theorem dX6_count_138 : decode cX6_count 138 = .ok (.getfield 7, 3) := by decide +kernel
theorem dX6_count_141 : decode cX6_count 141 = .ok (.iconst 1, 1) := by decide +kernel
theorem dX6_count_142 : decode cX6_count 142 = .ok (.iload_n 1, 1) := by decide +kernel
theorem dX6_count_143 : decode cX6_count 143 = .ok (.iadd, 1) := by decide +kernel
theorem dX6_count_144 : decode cX6_count 144 = .ok (.bipush 10, 2) := by decide +kernel
theorem dX6_count_146 : decode cX6_count 146 = .ok (.isub, 1) := by decide +kernel
theorem dX6_count_147 : decode cX6_count 147 = .ok (.iaload, 1) := by decide +kernel
theorem dX6_count_148 : decode cX6_count 148 = .ok (.ireturn, 1) := by decide +kernel
theorem dX6_count_149 : decode cX6_count 149 = .ok (.aload_n 0, 1) := by decide +kernel
theorem dX6_count_150 : decode cX6_count 150 = .ok (.invokevirtual 229, 3) := by decide +kernel
theorem dX6_count_153 : decode cX6_count 153 = .ok (.ireturn, 1) := by decide +kernel
theorem dX6_count_154 : decode cX6_count 154 = .ok (.aload_n 0, 1) := by decide +kernel
theorem dX6_count_155 : decode cX6_count 155 = .ok (.getfield 135, 3) := by decide +kernel
theorem dX6_count_158 : decode cX6_count 158 = .ok (.ireturn, 1) := by decide +kernel
theorem dX6_count_159 : decode cX6_count 159 = .ok (.aload_n 0, 1) := by decide +kernel
theorem dX6_count_160 : decode cX6_count 160 = .ok (.getfield 34, 3) := by decide +kernel
theorem dX6_count_163 : decode cX6_count 163 = .ok (.ireturn, 1) := by decide +kernel
theorem dX6_count_164 : decode cX6_count 164 = .ok (.iconst (-1), 1) := by decide +kernel
theorem dX6_count_165 : decode cX6_count 165 = .ok (.ireturn, 1) := by decide +kernel
theorem dX6_length_0 : decode cX6_length 0 = .ok (.iconst 0, 1) := by decide +kernel
theorem dX6_length_1 : decode cX6_length 1 = .ok (.istore_n 1, 1) := by decide +kernel
theorem dX6_length_2 : decode cX6_length 2 = .ok (.iconst 0, 1) := by decide +kernel
theorem dX6_length_3 : decode cX6_length 3 = .ok (.istore_n 2, 1) := by decide +kernel
theorem dX6_length_4 : decode cX6_length 4 = .ok (.iload_n 2, 1) := by decide +kernel
theorem dX6_length_5 : decode cX6_length 5 = .ok (.aload_n 0, 1) := by decide +kernel
theorem dX6_length_6 : decode cX6_length 6 = .ok (.getfield 7, 3) := by decide +kernel
theorem dX6_length_9 : decode cX6_length 9 = .ok (.iconst 3, 1) := by decide +kernel
theorem dX6_length_10 : decode cX6_length 10 = .ok (.iaload, 1) := by decide +kernel
theorem dX6_length_11 : decode cX6_length 11 = .ok (.if_icmp .ge 18, 3) := by decide +kernel
theorem dX6_length_14 : decode cX6_length 14 = .ok (.iload_n 1, 1) := by decide +kernel
theorem dX6_length_15 : decode cX6_length 15 = .ok (.aload_n 0, 1) := by decide +kernel
theorem dX6_length_16 : decode cX6_length 16 = .ok (.iload_n 2, 1) := by decide +kernel
theorem dX6_length_17 : decode cX6_length 17 = .ok (.iconst 0, 1) := by decide +kernel
theorem dX6_length_18 : decode cX6_length 18 = .ok (.invokevirtual 60, 3) := by decide +kernel
theorem dX6_length_21 : decode cX6_length 21 = .ok (.iadd, 1) := by decide +kernel
theorem dX6_length_22 : decode cX6_length 22 = .ok (.istore_n 1, 1) := by decide +kernel
theorem dX6_length_23 : decode cX6_length 23 = .ok (.iinc 2 1, 3) := by decide +kernel
theorem dX6_length_26 : decode cX6_length 26 = .ok (.goto (-22), 3) := by decide +kernel
theorem dX6_length_29 : decode cX6_length 29 = .ok (.aload_n 0, 1) := by decide +kernel
theorem dX6_length_30 : decode cX6_length 30 = .ok (.getfield 7, 3) := by decide +kernel
theorem dX6_length_33 : decode cX6_length 33 = .ok (.iconst 3, 1) := by decide +kernel
theorem dX6_length_34 : decode cX6_length 34 = .ok (.iaload, 1) := by decide +kernel
theorem dX6_length_35 : decode cX6_length 35 = .ok (.ifCond .ne 7, 3) := by decide +kernel
theorem dX6_length_38 : decode cX6_length 38 = .ok (.dconst 0, 1) := by decide +kernel
theorem dX6_length_39 : decode cX6_length 39 = .ok (.goto 18, 3) := by decide +kernel
theorem dX6_length_42 : decode cX6_length 42 = .ok (.iload_n 1, 1) := by decide +kernel
theorem dX6_length_43 : decode cX6_length 43 = .ok (.i2d, 1) := by decide +kernel
theorem dX6_length_44 : decode cX6_length 44 = .ok (.aload_n 0, 1) := by decide +kernel
theorem dX6_length_45 : decode cX6_length 45 = .ok (.invokevirtual 226, 3) := by decide +kernel
theorem dX6_length_48 : decode cX6_length 48 = .ok (.aload_n 0, 1) := by decide +kernel
theorem dX6_length_49 : decode cX6_length 49 = .ok (.getfield 7, 3) := by decide +kernel
theorem dX6_length_52 : decode cX6_length 52 = .ok (.iconst 3, 1) := by decide +kernel
theorem dX6_length_53 : decode cX6_length 53 = .ok (.iaload, 1) := by decide +kernel
theorem dX6_length_54 : decode cX6_length 54 = .ok (.iadd, 1) := by decide +kernel
theorem dX6_length_55 : decode cX6_length 55 = .ok (.i2d, 1) := by decide +kernel
theorem dX6_length_56 : decode cX6_length 56 = .ok (.ddiv, 1) := by decide +kernel
theorem dX6_length_57 : decode cX6_length 57 = .ok (.dreturn, 1) := by decide +kernel
theorem dX6_fineBy_0 : decode cX6_fineBy 0 = .ok (.aload_n 0, 1) := by decide +kernel
theorem dX6_fineBy_1 : decode cX6_fineBy 1 = .ok (.iload_n 1, 1) := by decide +kernel
theorem dX6_fineBy_2 : decode cX6_fineBy 2 = .ok (.iconst 1, 1) := by decide +kernel
theorem dX6_fineBy_3 : decode cX6_fineBy 3 = .ok (.invokevirtual 60, 3) := by decide +kernel
theorem dX6_fineBy_6 : decode cX6_fineBy 6 = .ok (.iload_n 2, 1) := by decide +kernel
theorem dX6_fineBy_7 : decode cX6_fineBy 7 = .ok (.ishr, 1) := by decide +kernel
theorem dX6_fineBy_8 : decode cX6_fineBy 8 = .ok (.iconst 1, 1) := by decide +kernel
theorem dX6_fineBy_9 : decode cX6_fineBy 9 = .ok (.iand, 1) := by decide +kernel
theorem dX6_fineBy_10 : decode cX6_fineBy 10 = .ok (.iconst 1, 1) := by decide +kernel
theorem dX6_fineBy_11 : decode cX6_fineBy 11 = .ok (.if_icmp .ne 7, 3) := by decide +kernel
theorem dX6_fineBy_14 : decode cX6_fineBy 14 = .ok (.iconst 1, 1) := by decide +kernel
theorem dX6_fineBy_15 : decode cX6_fineBy 15 = .ok (.goto 4, 3) := by decide +kernel
theorem dX6_fineBy_18 : decode cX6_fineBy 18 = .ok (.iconst 0, 1) := by decide +kernel
theorem dX6_fineBy_19 : decode cX6_fineBy 19 = .ok (.istore 5, 2) := by decide +kernel
theorem dX6_fineBy_21 : decode cX6_fineBy 21 = .ok (.iload 5, 2) := by decide +kernel
theorem dX6_fineBy_23 : decode cX6_fineBy 23 = .ok (.iload_n 3, 1) := by decide +kernel
theorem dX6_fineBy_24 : decode cX6_fineBy 24 = .ok (.if_icmp .ne 7, 3) := by decide +kernel
theorem dX6_fineBy_27 : decode cX6_fineBy 27 = .ok (.iconst 0, 1) := by decide +kernel
theorem dX6_fineBy_28 : decode cX6_fineBy 28 = .ok (.goto 5, 3) := by decide +kernel
theorem dX6_fineBy_31 : decode cX6_fineBy 31 = .ok (.iload 4, 2) := by decide +kernel
theorem dX6_fineBy_33 : decode cX6_fineBy 33 = .ok (.ireturn, 1) := by decide +kernel
theorem dX6_ifRuled_0 : decode cX6_ifRuled 0 = .ok (.iload_n 1, 1) := by decide +kernel
theorem dX6_ifRuled_1 : decode cX6_ifRuled 1 = .ok (.iload_n 2, 1) := by decide +kernel
theorem dX6_ifRuled_2 : decode cX6_ifRuled 2 = .ok (.iload 4, 2) := by decide +kernel
theorem dX6_ifRuled_4 : decode cX6_ifRuled 4 = .ok (.invokestatic 115, 3) := by decide +kernel
theorem dX6_ifRuled_7 : decode cX6_ifRuled 7 = .ok (.ifCond .ne 5, 3) := by decide +kernel
theorem dX6_ifRuled_10 : decode cX6_ifRuled 10 = .ok (.iconst (-1), 1) := by decide +kernel
theorem dX6_ifRuled_11 : decode cX6_ifRuled 11 = .ok (.ireturn, 1) := by decide +kernel
theorem dX6_ifRuled_12 : decode cX6_ifRuled 12 = .ok (.iconst 0, 1) := by decide +kernel
theorem dX6_ifRuled_13 : decode cX6_ifRuled 13 = .ok (.istore 5, 2) := by decide +kernel
theorem dX6_ifRuled_15 : decode cX6_ifRuled 15 = .ok (.iconst 0, 1) := by decide +kernel
theorem dX6_ifRuled_16 : decode cX6_ifRuled 16 = .ok (.istore 6, 2) := by decide +kernel
theorem dX6_ifRuled_18 : decode cX6_ifRuled 18 = .ok (.iload 6, 2) := by decide +kernel
theorem dX6_ifRuled_20 : decode cX6_ifRuled 20 = .ok (.aload_n 0, 1) := by decide +kernel
theorem dX6_ifRuled_21 : decode cX6_ifRuled 21 = .ok (.getfield 7, 3) := by decide +kernel
theorem dX6_ifRuled_24 : decode cX6_ifRuled 24 = .ok (.iconst 3, 1) := by decide +kernel
theorem dX6_ifRuled_25 : decode cX6_ifRuled 25 = .ok (.iaload, 1) := by decide +kernel
theorem dX6_ifRuled_26 : decode cX6_ifRuled 26 = .ok (.if_icmp .ge 106, 3) := by decide +kernel
theorem dX6_ifRuled_29 : decode cX6_ifRuled 29 = .ok (.iconst 0, 1) := by decide +kernel
theorem dX6_ifRuled_30 : decode cX6_ifRuled 30 = .ok (.istore 7, 2) := by decide +kernel
theorem dX6_ifRuled_32 : decode cX6_ifRuled 32 = .ok (.iload 7, 2) := by decide +kernel
theorem dX6_ifRuled_34 : decode cX6_ifRuled 34 = .ok (.iconst 1, 1) := by decide +kernel
theorem dX6_ifRuled_35 : decode cX6_ifRuled 35 = .ok (.iadd, 1) := by decide +kernel
theorem dX6_ifRuled_36 : decode cX6_ifRuled 36 = .ok (.aload_n 0, 1) := by decide +kernel
theorem dX6_ifRuled_37 : decode cX6_ifRuled 37 = .ok (.iload 6, 2) := by decide +kernel
theorem dX6_ifRuled_39 : decode cX6_ifRuled 39 = .ok (.iconst 0, 1) := by decide +kernel
theorem dX6_ifRuled_40 : decode cX6_ifRuled 40 = .ok (.invokevirtual 60, 3) := by decide +kernel
theorem dX6_ifRuled_43 : decode cX6_ifRuled 43 = .ok (.if_icmp .ge 83, 3) := by decide +kernel
theorem dX6_ifRuled_46 : decode cX6_ifRuled 46 = .ok (.aload_n 0, 1) := by decide +kernel
theorem dX6_ifRuled_47 : decode cX6_ifRuled 47 = .ok (.iload 6, 2) := by decide +kernel
theorem dX6_ifRuled_49 : decode cX6_ifRuled 49 = .ok (.iload 7, 2) := by decide +kernel
theorem dX6_ifRuled_51 : decode cX6_ifRuled 51 = .ok (.invokevirtual 63, 3) := by decide +kernel
theorem dX6_ifRuled_54 : decode cX6_ifRuled 54 = .ok (.iload_n 1, 1) := by decide +kernel
theorem dX6_ifRuled_55 : decode cX6_ifRuled 55 = .ok (.if_icmp .ne 21, 3) := by decide +kernel
theorem dX6_ifRuled_58 : decode cX6_ifRuled 58 = .ok (.aload_n 0, 1) := by decide +kernel
theorem dX6_ifRuled_59 : decode cX6_ifRuled 59 = .ok (.iload 6, 2) := by decide +kernel
theorem dX6_ifRuled_61 : decode cX6_ifRuled 61 = .ok (.iload 7, 2) := by decide +kernel
theorem dX6_ifRuled_63 : decode cX6_ifRuled 63 = .ok (.iconst 1, 1) := by decide +kernel
theorem dX6_ifRuled_64 : decode cX6_ifRuled 64 = .ok (.iadd, 1) := by decide +kernel
theorem dX6_ifRuled_65 : decode cX6_ifRuled 65 = .ok (.invokevirtual 63, 3) := by decide +kernel
theorem dX6_ifRuled_68 : decode cX6_ifRuled 68 = .ok (.iload_n 2, 1) := by decide +kernel
theorem dX6_ifRuled_69 : decode cX6_ifRuled 69 = .ok (.if_icmp .ne 7, 3) := by decide +kernel
theorem dX6_ifRuled_72 : decode cX6_ifRuled 72 = .ok (.iconst 1, 1) := by decide +kernel
theorem dX6_ifRuled_73 : decode cX6_ifRuled 73 = .ok (.goto 4, 3) := by decide +kernel
theorem dX6_ifRuled_76 : decode cX6_ifRuled 76 = .ok (.iconst 0, 1) := by decide +kernel
theorem dX6_ifRuled_77 : decode cX6_ifRuled 77 = .ok (.istore 8, 2) := by decide +kernel
theorem dX6_ifRuled_79 : decode cX6_ifRuled 79 = .ok (.iload 5, 2) := by decide +kernel
theorem dX6_ifRuled_81 : decode cX6_ifRuled 81 = .ok (.iload 8, 2) := by decide +kernel
theorem dX6_ifRuled_83 : decode cX6_ifRuled 83 = .ok (.ifCond .eq 33, 3) := by decide +kernel
theorem dX6_ifRuled_86 : decode cX6_ifRuled 86 = .ok (.aload_n 0, 1) := by decide +kernel
theorem dX6_ifRuled_87 : decode cX6_ifRuled 87 = .ok (.iload 6, 2) := by decide +kernel
theorem dX6_ifRuled_89 : decode cX6_ifRuled 89 = .ok (.iload 7, 2) := by decide +kernel
theorem dX6_ifRuled_91 : decode cX6_ifRuled 91 = .ok (.iload_n 3, 1) := by decide +kernel
theorem dX6_ifRuled_92 : decode cX6_ifRuled 92 = .ok (.iload 4, 2) := by decide +kernel
theorem dX6_ifRuled_94 : decode cX6_ifRuled 94 = .ok (.invokevirtual 232, 3) := by decide +kernel
theorem dX6_ifRuled_97 : decode cX6_ifRuled 97 = .ok (.aload_n 0, 1) := by decide +kernel
theorem dX6_ifRuled_98 : decode cX6_ifRuled 98 = .ok (.iload 6, 2) := by decide +kernel
theorem dX6_ifRuled_100 : decode cX6_ifRuled 100 = .ok (.iload 7, 2) := by decide +kernel
theorem dX6_ifRuled_102 : decode cX6_ifRuled 102 = .ok (.aload_n 0, 1) := by decide +kernel
theorem dX6_ifRuled_103 : decode cX6_ifRuled 103 = .ok (.iload 6, 2) := by decide +kernel
theorem dX6_ifRuled_105 : decode cX6_ifRuled 105 = .ok (.iconst 1, 1) := by decide +kernel
theorem dX6_ifRuled_106 : decode cX6_ifRuled 106 = .ok (.invokevirtual 60, 3) := by decide +kernel
theorem dX6_ifRuled_109 : decode cX6_ifRuled 109 = .ok (.invokevirtual 76, 3) := by decide +kernel
theorem dX6_ifRuled_112 : decode cX6_ifRuled 112 = .ok (.isub, 1) := by decide +kernel
theorem dX6_ifRuled_113 : decode cX6_ifRuled 113 = .ok (.goto 4, 3) := by decide +kernel
theorem dX6_ifRuled_116 : decode cX6_ifRuled 116 = .ok (.iconst 0, 1) := by decide +kernel
theorem dX6_ifRuled_117 : decode cX6_ifRuled 117 = .ok (.iadd, 1) := by decide +kernel
theorem dX6_ifRuled_118 : decode cX6_ifRuled 118 = .ok (.istore 5, 2) := by decide +kernel
theorem dX6_ifRuled_120 : decode cX6_ifRuled 120 = .ok (.iinc 7 1, 3) := by decide +kernel
theorem dX6_ifRuled_123 : decode cX6_ifRuled 123 = .ok (.goto (-91), 3) := by decide +kernel
theorem dX6_ifRuled_126 : decode cX6_ifRuled 126 = .ok (.iinc 6 1, 3) := by decide +kernel
theorem dX6_ifRuled_129 : decode cX6_ifRuled 129 = .ok (.goto (-111), 3) := by decide +kernel
theorem dX6_ifRuled_132 : decode cX6_ifRuled 132 = .ok (.sipush 1000, 3) := by decide +kernel
theorem dX6_ifRuled_135 : decode cX6_ifRuled 135 = .ok (.iload 5, 2) := by decide +kernel
theorem dX6_ifRuled_137 : decode cX6_ifRuled 137 = .ok (.iadd, 1) := by decide +kernel
theorem dX6_ifRuled_138 : decode cX6_ifRuled 138 = .ok (.ireturn, 1) := by decide +kernel
theorem dX6_bestSuit_0 : decode cX6_bestSuit 0 = .ok (.aload_n 0, 1) := by decide +kernel
theorem dX6_bestSuit_1 : decode cX6_bestSuit 1 = .ok (.iload_n 1, 1) := by decide +kernel
theorem dX6_bestSuit_2 : decode cX6_bestSuit 2 = .ok (.invokevirtual 57, 3) := by decide +kernel
theorem dX6_bestSuit_5 : decode cX6_bestSuit 5 = .ok (.ifCond .ne 5, 3) := by decide +kernel
theorem dX6_bestSuit_8 : decode cX6_bestSuit 8 = .ok (.iconst (-1), 1) := by decide +kernel
theorem dX6_bestSuit_9 : decode cX6_bestSuit 9 = .ok (.ireturn, 1) := by decide +kernel
theorem dX6_bestSuit_10 : decode cX6_bestSuit 10 = .ok (.bipush (-4), 2) := by decide +kernel
theorem dX6_bestSuit_12 : decode cX6_bestSuit 12 = .ok (.istore_n 2, 1) := by decide +kernel
theorem dX6_bestSuit_13 : decode cX6_bestSuit 13 = .ok (.iconst 0, 1) := by decide +kernel
theorem dX6_bestSuit_14 : decode cX6_bestSuit 14 = .ok (.istore_n 3, 1) := by decide +kernel
theorem dX6_bestSuit_15 : decode cX6_bestSuit 15 = .ok (.iconst 0, 1) := by decide +kernel
theorem dX6_bestSuit_16 : decode cX6_bestSuit 16 = .ok (.istore 4, 2) := by decide +kernel
theorem dX6_bestSuit_18 : decode cX6_bestSuit 18 = .ok (.iload 4, 2) := by decide +kernel
theorem dX6_bestSuit_20 : decode cX6_bestSuit 20 = .ok (.iconst 1, 1) := by decide +kernel
theorem dX6_bestSuit_21 : decode cX6_bestSuit 21 = .ok (.iadd, 1) := by decide +kernel
theorem dX6_bestSuit_22 : decode cX6_bestSuit 22 = .ok (.aload_n 0, 1) := by decide +kernel
theorem dX6_bestSuit_23 : decode cX6_bestSuit 23 = .ok (.iload_n 1, 1) := by decide +kernel
theorem dX6_bestSuit_24 : decode cX6_bestSuit 24 = .ok (.iconst 0, 1) := by decide +kernel
theorem dX6_bestSuit_25 : decode cX6_bestSuit 25 = .ok (.invokevirtual 60, 3) := by decide +kernel
theorem dX6_bestSuit_28 : decode cX6_bestSuit 28 = .ok (.if_icmp .ge 80, 3) := by decide +kernel
theorem dX6_bestSuit_31 : decode cX6_bestSuit 31 = .ok (.aload_n 0, 1) := by decide +kernel
theorem dX6_bestSuit_32 : decode cX6_bestSuit 32 = .ok (.iload_n 1, 1) := by decide +kernel
theorem dX6_bestSuit_33 : decode cX6_bestSuit 33 = .ok (.aload_n 0, 1) := by decide +kernel
theorem dX6_bestSuit_34 : decode cX6_bestSuit 34 = .ok (.iload_n 1, 1) := by decide +kernel
theorem dX6_bestSuit_35 : decode cX6_bestSuit 35 = .ok (.iconst 1, 1) := by decide +kernel
theorem dX6_bestSuit_36 : decode cX6_bestSuit 36 = .ok (.invokevirtual 60, 3) := by decide +kernel
theorem dX6_bestSuit_39 : decode cX6_bestSuit 39 = .ok (.iconst 1, 1) := by decide +kernel
theorem dX6_bestSuit_40 : decode cX6_bestSuit 40 = .ok (.iload 4, 2) := by decide +kernel
theorem dX6_bestSuit_42 : decode cX6_bestSuit 42 = .ok (.ishl, 1) := by decide +kernel
theorem dX6_bestSuit_43 : decode cX6_bestSuit 43 = .ok (.ixor, 1) := by decide +kernel
theorem dX6_bestSuit_44 : decode cX6_bestSuit 44 = .ok (.invokevirtual 86, 3) := by decide +kernel
theorem dX6_bestSuit_47 : decode cX6_bestSuit 47 = .ok (.istore 5, 2) := by decide +kernel
theorem dX6_bestSuit_49 : decode cX6_bestSuit 49 = .ok (.aload_n 0, 1) := by decide +kernel
theorem dX6_bestSuit_50 : decode cX6_bestSuit 50 = .ok (.iload_n 1, 1) := by decide +kernel
theorem dX6_bestSuit_51 : decode cX6_bestSuit 51 = .ok (.iload 4, 2) := by decide +kernel
theorem dX6_bestSuit_53 : decode cX6_bestSuit 53 = .ok (.invokevirtual 102, 3) := by decide +kernel
theorem dX6_bestSuit_56 : decode cX6_bestSuit 56 = .ok (.ifCond .ne 19, 3) := by decide +kernel
theorem dX6_bestSuit_59 : decode cX6_bestSuit 59 = .ok (.iload_n 2, 1) := by decide +kernel
theorem dX6_bestSuit_60 : decode cX6_bestSuit 60 = .ok (.bipush (-4), 2) := by decide +kernel
theorem dX6_bestSuit_62 : decode cX6_bestSuit 62 = .ok (.if_icmp .eq 9, 3) := by decide +kernel
theorem dX6_bestSuit_65 : decode cX6_bestSuit 65 = .ok (.iload 5, 2) := by decide +kernel
theorem dX6_bestSuit_67 : decode cX6_bestSuit 67 = .ok (.iload_n 3, 1) := by decide +kernel
theorem dX6_bestSuit_68 : decode cX6_bestSuit 68 = .ok (.if_icmp .ge 7, 3) := by decide +kernel
theorem dX6_bestSuit_71 : decode cX6_bestSuit 71 = .ok (.iconst 1, 1) := by decide +kernel
theorem dX6_bestSuit_72 : decode cX6_bestSuit 72 = .ok (.goto 4, 3) := by decide +kernel
theorem dX6_bestSuit_75 : decode cX6_bestSuit 75 = .ok (.iconst 0, 1) := by decide +kernel
theorem dX6_bestSuit_76 : decode cX6_bestSuit 76 = .ok (.istore 6, 2) := by decide +kernel
theorem dX6_bestSuit_78 : decode cX6_bestSuit 78 = .ok (.iload 6, 2) := by decide +kernel
theorem dX6_bestSuit_80 : decode cX6_bestSuit 80 = .ok (.ifCond .eq 8, 3) := by decide +kernel
theorem dX6_bestSuit_83 : decode cX6_bestSuit 83 = .ok (.iload 4, 2) := by decide +kernel
theorem dX6_bestSuit_85 : decode cX6_bestSuit 85 = .ok (.goto 4, 3) := by decide +kernel
theorem dX6_bestSuit_88 : decode cX6_bestSuit 88 = .ok (.iload_n 2, 1) := by decide +kernel
theorem dX6_bestSuit_89 : decode cX6_bestSuit 89 = .ok (.istore_n 2, 1) := by decide +kernel
theorem dX6_bestSuit_90 : decode cX6_bestSuit 90 = .ok (.iload 6, 2) := by decide +kernel
theorem dX6_bestSuit_92 : decode cX6_bestSuit 92 = .ok (.ifCond .eq 8, 3) := by decide +kernel
theorem dX6_bestSuit_95 : decode cX6_bestSuit 95 = .ok (.iload 5, 2) := by decide +kernel
theorem dX6_bestSuit_97 : decode cX6_bestSuit 97 = .ok (.goto 4, 3) := by decide +kernel
theorem dX6_bestSuit_100 : decode cX6_bestSuit 100 = .ok (.iload_n 3, 1) := by decide +kernel
theorem dX6_bestSuit_101 : decode cX6_bestSuit 101 = .ok (.istore_n 3, 1) := by decide +kernel
theorem dX6_bestSuit_102 : decode cX6_bestSuit 102 = .ok (.iinc 4 1, 3) := by decide +kernel
theorem dX6_bestSuit_105 : decode cX6_bestSuit 105 = .ok (.goto (-87), 3) := by decide +kernel
theorem dX6_bestSuit_108 : decode cX6_bestSuit 108 = .ok (.iload_n 2, 1) := by decide +kernel
theorem dX6_bestSuit_109 : decode cX6_bestSuit 109 = .ok (.ireturn, 1) := by decide +kernel
theorem dX6_undo_0 : decode cX6_undo 0 = .ok (.aload_n 0, 1) := by decide +kernel
theorem dX6_undo_1 : decode cX6_undo 1 = .ok (.getfield 34, 3) := by decide +kernel
theorem dX6_undo_4 : decode cX6_undo 4 = .ok (.ifCond .ne 6, 3) := by decide +kernel
theorem dX6_undo_7 : decode cX6_undo 7 = .ok (.bipush (-2), 2) := by decide +kernel
theorem dX6_undo_9 : decode cX6_undo 9 = .ok (.ireturn, 1) := by decide +kernel
theorem dX6_undo_10 : decode cX6_undo 10 = .ok (.aload_n 0, 1) := by decide +kernel
theorem dX6_undo_11 : decode cX6_undo 11 = .ok (.dup, 1) := by decide +kernel
theorem dX6_undo_12 : decode cX6_undo 12 = .ok (.getfield 34, 3) := by decide +kernel
theorem dX6_undo_15 : decode cX6_undo 15 = .ok (.iconst 1, 1) := by decide +kernel
theorem dX6_undo_16 : decode cX6_undo 16 = .ok (.isub, 1) := by decide +kernel
theorem dX6_undo_17 : decode cX6_undo 17 = .ok (.putfield 34, 3) := by decide +kernel
theorem dX6_undo_20 : decode cX6_undo 20 = .ok (.aload_n 0, 1) := by decide +kernel
theorem dX6_undo_21 : decode cX6_undo 21 = .ok (.getfield 13, 3) := by decide +kernel
theorem dX6_undo_24 : decode cX6_undo 24 = .ok (.sipush 137, 3) := by decide +kernel
theorem dX6_undo_27 : decode cX6_undo 27 = .ok (.aload_n 0, 1) := by decide +kernel
theorem dX6_undo_28 : decode cX6_undo 28 = .ok (.getfield 34, 3) := by decide +kernel
theorem dX6_undo_31 : decode cX6_undo 31 = .ok (.imul, 1) := by decide +kernel
theorem dX6_undo_32 : decode cX6_undo 32 = .ok (.aload_n 0, 1) := by decide +kernel
theorem dX6_undo_33 : decode cX6_undo 33 = .ok (.getfield 7, 3) := by decide +kernel
theorem dX6_undo_36 : decode cX6_undo 36 = .ok (.iconst 0, 1) := by decide +kernel
theorem dX6_undo_37 : decode cX6_undo 37 = .ok (.invokestatic 38, 3) := by decide +kernel
theorem dX6_undo_40 : decode cX6_undo 40 = .ok (.aload_n 0, 1) := by decide +kernel
theorem dX6_undo_41 : decode cX6_undo 41 = .ok (.getfield 34, 3) := by decide +kernel
theorem dX6_undo_44 : decode cX6_undo 44 = .ok (.ireturn, 1) := by decide +kernel
theorem dX6_save_0 : decode cX6_save 0 = .ok (.aload_n 0, 1) := by decide +kernel
theorem dX6_save_1 : decode cX6_save 1 = .ok (.getfield 7, 3) := by decide +kernel
theorem dX6_save_4 : decode cX6_save 4 = .ok (.iconst 0, 1) := by decide +kernel
theorem dX6_save_5 : decode cX6_save 5 = .ok (.aload_n 0, 1) := by decide +kernel
theorem dX6_save_6 : decode cX6_save 6 = .ok (.getfield 16, 3) := by decide +kernel
theorem dX6_save_9 : decode cX6_save 9 = .ok (.iconst 0, 1) := by decide +kernel
theorem dX6_save_10 : decode cX6_save 10 = .ok (.invokestatic 38, 3) := by decide +kernel
theorem dX6_save_13 : decode cX6_save 13 = .ok (.aload_n 0, 1) := by decide +kernel
theorem dX6_save_14 : decode cX6_save 14 = .ok (.iconst 1, 1) := by decide +kernel
theorem dX6_save_15 : decode cX6_save 15 = .ok (.putfield 236, 3) := by decide +kernel
theorem dX6_save_18 : decode cX6_save 18 = .ok (.aload_n 0, 1) := by decide +kernel
theorem dX6_save_19 : decode cX6_save 19 = .ok (.getfield 7, 3) := by decide +kernel
theorem dX6_save_22 : decode cX6_save 22 = .ok (.iconst 3, 1) := by decide +kernel
theorem dX6_save_23 : decode cX6_save 23 = .ok (.iaload, 1) := by decide +kernel
theorem dX6_save_24 : decode cX6_save 24 = .ok (.ireturn, 1) := by decide +kernel
theorem dX6_restore_0 : decode cX6_restore 0 = .ok (.aload_n 0, 1) := by decide +kernel
theorem dX6_restore_1 : decode cX6_restore 1 = .ok (.getfield 236, 3) := by decide +kernel
theorem dX6_restore_4 : decode cX6_restore 4 = .ok (.ifCond .ne 6, 3) := by decide +kernel
theorem dX6_restore_7 : decode cX6_restore 7 = .ok (.bipush (-2), 2) := by decide +kernel
theorem dX6_restore_9 : decode cX6_restore 9 = .ok (.ireturn, 1) := by decide +kernel
theorem dX6_restore_10 : decode cX6_restore 10 = .ok (.aload_n 0, 1) := by decide +kernel
