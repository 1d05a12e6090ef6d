theorem dX0_init_0 : decode cX0_init 0 = .ok (.aload_n 0, 1) := by decide +kernel
theorem dX0_init_1 : decode cX0_init 1 = .ok (.invokespecial 3, 3) := by decide +kernel
theorem dX0_init_4 : decode cX0_init 4 = .ok (.aload_n 0, 1) := by decide +kernel
theorem dX0_init_5 : decode cX0_init 5 = .ok (.bipush 12, 2) := by decide +kernel
theorem dX0_init_7 : decode cX0_init 7 = .ok (.newarray .int, 2) := by decide +kernel
theorem dX0_init_9 : decode cX0_init 9 = .ok (.putfield 9, 3) := by decide +kernel
theorem dX0_init_12 : decode cX0_init 12 = .ok (.return_, 1) := by decide +kernel
theorem dX0_copyFrom_0 : decode cX0_copyFrom 0 = .ok (.iconst 0, 1) := by decide +kernel
theorem dX0_copyFrom_1 : decode cX0_copyFrom 1 = .ok (.istore_n 2, 1) := by decide +kernel
theorem dX0_copyFrom_2 : decode cX0_copyFrom 2 = .ok (.iload_n 2, 1) := by decide +kernel
theorem dX0_copyFrom_3 : decode cX0_copyFrom 3 = .ok (.bipush 12, 2) := by decide +kernel
theorem dX0_copyFrom_5 : decode cX0_copyFrom 5 = .ok (.if_icmp .ge 25, 3) := by decide +kernel
theorem dX0_copyFrom_8 : decode cX0_copyFrom 8 = .ok (.aload_n 0, 1) := by decide +kernel
theorem dX0_copyFrom_9 : decode cX0_copyFrom 9 = .ok (.getfield 9, 3) := by decide +kernel
theorem dX0_copyFrom_12 : decode cX0_copyFrom 12 = .ok (.iload_n 2, 1) := by decide +kernel
theorem dX0_copyFrom_13 : decode cX0_copyFrom 13 = .ok (.aload_n 1, 1) := by decide +kernel
theorem dX0_copyFrom_14 : decode cX0_copyFrom 14 = .ok (.getfield 9, 3) := by decide +kernel
theorem dX0_copyFrom_17 : decode cX0_copyFrom 17 = .ok (.iload_n 2, 1) := by decide +kernel
theorem dX0_copyFrom_18 : decode cX0_copyFrom 18 = .ok (.invokestatic 15, 3) := by decide +kernel
theorem dX0_copyFrom_21 : decode cX0_copyFrom 21 = .ok (.invokestatic 19, 3) := by decide +kernel
theorem dX0_copyFrom_24 : decode cX0_copyFrom 24 = .ok (.iinc 2 1, 3) := by decide +kernel
theorem dX0_copyFrom_27 : decode cX0_copyFrom 27 = .ok (.goto (-25), 3) := by decide +kernel
theorem dX0_copyFrom_30 : decode cX0_copyFrom 30 = .ok (.aload_n 0, 1) := by decide +kernel
theorem dX0_copyFrom_31 : decode cX0_copyFrom 31 = .ok (.aload_n 1, 1) := by decide +kernel
theorem dX0_copyFrom_32 : decode cX0_copyFrom 32 = .ok (.getfield 23, 3) := by decide +kernel
theorem dX0_copyFrom_35 : decode cX0_copyFrom 35 = .ok (.putfield 23, 3) := by decide +kernel
theorem dX0_copyFrom_38 : decode cX0_copyFrom 38 = .ok (.aload_n 0, 1) := by decide +kernel
theorem dX0_copyFrom_39 : decode cX0_copyFrom 39 = .ok (.aload_n 1, 1) := by decide +kernel
theorem dX0_copyFrom_40 : decode cX0_copyFrom 40 = .ok (.getfield 27, 3) := by decide +kernel
theorem dX0_copyFrom_43 : decode cX0_copyFrom 43 = .ok (.putfield 27, 3) := by decide +kernel
theorem dX0_copyFrom_46 : decode cX0_copyFrom 46 = .ok (.aload_n 0, 1) := by decide +kernel
theorem dX0_copyFrom_47 : decode cX0_copyFrom 47 = .ok (.aload_n 1, 1) := by decide +kernel
theorem dX0_copyFrom_48 : decode cX0_copyFrom 48 = .ok (.getfield 30, 3) := by decide +kernel
theorem dX0_copyFrom_51 : decode cX0_copyFrom 51 = .ok (.putfield 30, 3) := by decide +kernel
theorem dX0_copyFrom_54 : decode cX0_copyFrom 54 = .ok (.aload_n 0, 1) := by decide +kernel
theorem dX0_copyFrom_55 : decode cX0_copyFrom 55 = .ok (.aload_n 1, 1) := by decide +kernel
theorem dX0_copyFrom_56 : decode cX0_copyFrom 56 = .ok (.getfield 33, 3) := by decide +kernel
theorem dX0_copyFrom_59 : decode cX0_copyFrom 59 = .ok (.putfield 33, 3) := by decide +kernel
theorem dX0_copyFrom_62 : decode cX0_copyFrom 62 = .ok (.return_, 1) := by decide +kernel
theorem dX0_hasGap_0 : decode cX0_hasGap 0 = .ok (.iload_n 1, 1) := by decide +kernel
theorem dX0_hasGap_1 : decode cX0_hasGap 1 = .ok (.ifCond .lt 17, 3) := by decide +kernel
theorem dX0_hasGap_4 : decode cX0_hasGap 4 = .ok (.iload_n 1, 1) := by decide +kernel
theorem dX0_hasGap_5 : decode cX0_hasGap 5 = .ok (.aload_n 0, 1) := by decide +kernel
theorem dX0_hasGap_6 : decode cX0_hasGap 6 = .ok (.getfield 23, 3) := by decide +kernel
theorem dX0_hasGap_9 : decode cX0_hasGap 9 = .ok (.iconst 1, 1) := by decide +kernel
theorem dX0_hasGap_10 : decode cX0_hasGap 10 = .ok (.isub, 1) := by decide +kernel
theorem dX0_hasGap_11 : decode cX0_hasGap 11 = .ok (.if_icmp .ge 7, 3) := by decide +kernel
theorem dX0_hasGap_14 : decode cX0_hasGap 14 = .ok (.iconst 1, 1) := by decide +kernel
theorem dX0_hasGap_15 : decode cX0_hasGap 15 = .ok (.goto 4, 3) := by decide +kernel
theorem dX0_hasGap_18 : decode cX0_hasGap 18 = .ok (.iconst 0, 1) := by decide +kernel
theorem dX0_hasGap_19 : decode cX0_hasGap 19 = .ok (.ireturn, 1) := by decide +kernel
theorem dX0_hasComma_0 : decode cX0_hasComma 0 = .ok (.aload_n 0, 1) := by decide +kernel
theorem dX0_hasComma_1 : decode cX0_hasComma 1 = .ok (.getfield 27, 3) := by decide +kernel
theorem dX0_hasComma_4 : decode cX0_hasComma 4 = .ok (.iload_n 1, 1) := by decide +kernel
theorem dX0_hasComma_5 : decode cX0_hasComma 5 = .ok (.ishr, 1) := by decide +kernel
theorem dX0_hasComma_6 : decode cX0_hasComma 6 = .ok (.iconst 1, 1) := by decide +kernel
theorem dX0_hasComma_7 : decode cX0_hasComma 7 = .ok (.iand, 1) := by decide +kernel
theorem dX0_hasComma_8 : decode cX0_hasComma 8 = .ok (.iconst 1, 1) := by decide +kernel
theorem dX0_hasComma_9 : decode cX0_hasComma 9 = .ok (.if_icmp .ne 7, 3) := by decide +kernel
theorem dX0_hasComma_12 : decode cX0_hasComma 12 = .ok (.iconst 1, 1) := by decide +kernel
theorem dX0_hasComma_13 : decode cX0_hasComma 13 = .ok (.goto 4, 3) := by decide +kernel
theorem dX0_hasComma_16 : decode cX0_hasComma 16 = .ok (.iconst 0, 1) := by decide +kernel
theorem dX0_hasComma_17 : decode cX0_hasComma 17 = .ok (.ireturn, 1) := by decide +kernel
theorem dX0_kindAt_0 : decode cX0_kindAt 0 = .ok (.iload_n 1, 1) := by decide +kernel
theorem dX0_kindAt_1 : decode cX0_kindAt 1 = .ok (.ifCond .lt 21, 3) := by decide +kernel
theorem dX0_kindAt_4 : decode cX0_kindAt 4 = .ok (.iload_n 1, 1) := by decide +kernel
theorem dX0_kindAt_5 : decode cX0_kindAt 5 = .ok (.aload_n 0, 1) := by decide +kernel
theorem dX0_kindAt_6 : decode cX0_kindAt 6 = .ok (.getfield 9, 3) := by decide +kernel
theorem dX0_kindAt_9 : decode cX0_kindAt 9 = .ok (.arraylength, 1) := by decide +kernel
theorem dX0_kindAt_10 : decode cX0_kindAt 10 = .ok (.if_icmp .ge 12, 3) := by decide +kernel
theorem dX0_kindAt_13 : decode cX0_kindAt 13 = .ok (.aload_n 0, 1) := by decide +kernel
theorem dX0_kindAt_14 : decode cX0_kindAt 14 = .ok (.getfield 9, 3) := by decide +kernel
theorem dX0_kindAt_17 : decode cX0_kindAt 17 = .ok (.iload_n 1, 1) := by decide +kernel
theorem dX0_kindAt_18 : decode cX0_kindAt 18 = .ok (.iaload, 1) := by decide +kernel
theorem dX0_kindAt_19 : decode cX0_kindAt 19 = .ok (.goto 4, 3) := by decide +kernel
theorem dX0_kindAt_22 : decode cX0_kindAt 22 = .ok (.iconst 0, 1) := by decide +kernel
theorem dX0_kindAt_23 : decode cX0_kindAt 23 = .ok (.ireturn, 1) := by decide +kernel
theorem dX0_clauses_0 : decode cX0_clauses 0 = .ok (.aload_n 0, 1) := by decide +kernel
theorem dX0_clauses_1 : decode cX0_clauses 1 = .ok (.getfield 27, 3) := by decide +kernel
theorem dX0_clauses_4 : decode cX0_clauses 4 = .ok (.invokestatic 36, 3) := by decide +kernel
theorem dX0_clauses_7 : decode cX0_clauses 7 = .ok (.iconst 1, 1) := by decide +kernel
theorem dX0_clauses_8 : decode cX0_clauses 8 = .ok (.iadd, 1) := by decide +kernel
theorem dX0_clauses_9 : decode cX0_clauses 9 = .ok (.ireturn, 1) := by decide +kernel
theorem dX0_movedCommas_0 : decode cX0_movedCommas 0 = .ok (.aload_n 0, 1) := by decide +kernel
theorem dX0_movedCommas_1 : decode cX0_movedCommas 1 = .ok (.getfield 27, 3) := by decide +kernel
theorem dX0_movedCommas_4 : decode cX0_movedCommas 4 = .ok (.iconst 1, 1) := by decide +kernel
theorem dX0_movedCommas_5 : decode cX0_movedCommas 5 = .ok (.iload_n 1, 1) := by decide +kernel
theorem dX0_movedCommas_6 : decode cX0_movedCommas 6 = .ok (.ishl, 1) := by decide +kernel
theorem dX0_movedCommas_7 : decode cX0_movedCommas 7 = .ok (.ixor, 1) := by decide +kernel
theorem dX0_movedCommas_8 : decode cX0_movedCommas 8 = .ok (.ireturn, 1) := by decide +kernel
theorem dX0_hasWordsOf_0 : decode cX0_hasWordsOf 0 = .ok (.aload_n 0, 1) := by decide +kernel
theorem dX0_hasWordsOf_1 : decode cX0_hasWordsOf 1 = .ok (.getfield 23, 3) := by decide +kernel
theorem dX0_hasWordsOf_4 : decode cX0_hasWordsOf 4 = .ok (.aload_n 1, 1) := by decide +kernel
theorem dX0_hasWordsOf_5 : decode cX0_hasWordsOf 5 = .ok (.getfield 23, 3) := by decide +kernel
theorem dX0_hasWordsOf_8 : decode cX0_hasWordsOf 8 = .ok (.if_icmp .eq 5, 3) := by decide +kernel
theorem dX0_hasWordsOf_11 : decode cX0_hasWordsOf 11 = .ok (.iconst 0, 1) := by decide +kernel
theorem dX0_hasWordsOf_12 : decode cX0_hasWordsOf 12 = .ok (.ireturn, 1) := by decide +kernel
theorem dX0_hasWordsOf_13 : decode cX0_hasWordsOf 13 = .ok (.iconst 0, 1) := by decide +kernel
theorem dX0_hasWordsOf_14 : decode cX0_hasWordsOf 14 = .ok (.istore_n 2, 1) := by decide +kernel
theorem dX0_hasWordsOf_15 : decode cX0_hasWordsOf 15 = .ok (.iload_n 2, 1) := by decide +kernel
theorem dX0_hasWordsOf_16 : decode cX0_hasWordsOf 16 = .ok (.aload_n 0, 1) := by decide +kernel
theorem dX0_hasWordsOf_17 : decode cX0_hasWordsOf 17 = .ok (.getfield 23, 3) := by decide +kernel
theorem dX0_hasWordsOf_20 : decode cX0_hasWordsOf 20 = .ok (.if_icmp .ge 24, 3) := by decide +kernel
theorem dX0_hasWordsOf_23 : decode cX0_hasWordsOf 23 = .ok (.aload_n 0, 1) := by decide +kernel
theorem dX0_hasWordsOf_24 : decode cX0_hasWordsOf 24 = .ok (.iload_n 2, 1) := by decide +kernel
theorem dX0_hasWordsOf_25 : decode cX0_hasWordsOf 25 = .ok (.invokevirtual 42, 3) := by decide +kernel
theorem dX0_hasWordsOf_28 : decode cX0_hasWordsOf 28 = .ok (.aload_n 1, 1) := by decide +kernel
theorem dX0_hasWordsOf_29 : decode cX0_hasWordsOf 29 = .ok (.iload_n 2, 1) := by decide +kernel
theorem dX0_hasWordsOf_30 : decode cX0_hasWordsOf 30 = .ok (.invokevirtual 42, 3) := by decide +kernel
theorem dX0_hasWordsOf_33 : decode cX0_hasWordsOf 33 = .ok (.if_icmp .eq 5, 3) := by decide +kernel
theorem dX0_hasWordsOf_36 : decode cX0_hasWordsOf 36 = .ok (.iconst 0, 1) := by decide +kernel
theorem dX0_hasWordsOf_37 : decode cX0_hasWordsOf 37 = .ok (.ireturn, 1) := by decide +kernel
theorem dX0_hasWordsOf_38 : decode cX0_hasWordsOf 38 = .ok (.iinc 2 1, 3) := by decide +kernel
theorem dX0_hasWordsOf_41 : decode cX0_hasWordsOf 41 = .ok (.goto (-26), 3) := by decide +kernel
theorem dX0_hasWordsOf_44 : decode cX0_hasWordsOf 44 = .ok (.iconst 1, 1) := by decide +kernel
theorem dX0_hasWordsOf_45 : decode cX0_hasWordsOf 45 = .ok (.ireturn, 1) := by decide +kernel
theorem dX0_textSign_0 : decode cX0_textSign 0 = .ok (.iconst 0, 1) := by decide +kernel
theorem dX0_textSign_1 : decode cX0_textSign 1 = .ok (.istore_n 2, 1) := by decide +kernel
theorem dX0_textSign_2 : decode cX0_textSign 2 = .ok (.iconst 0, 1) := by decide +kernel
theorem dX0_textSign_3 : decode cX0_textSign 3 = .ok (.istore_n 3, 1) := by decide +kernel
theorem dX0_textSign_4 : decode cX0_textSign 4 = .ok (.iload_n 3, 1) := by decide +kernel
theorem dX0_textSign_5 : decode cX0_textSign 5 = .ok (.aload_n 0, 1) := by decide +kernel
theorem dX0_textSign_6 : decode cX0_textSign 6 = .ok (.getfield 23, 3) := by decide +kernel
theorem dX0_textSign_9 : decode cX0_textSign 9 = .ok (.if_icmp .ge 45, 3) := by decide +kernel
theorem dX0_textSign_12 : decode cX0_textSign 12 = .ok (.iload_n 2, 1) := by decide +kernel
theorem dX0_textSign_13 : decode cX0_textSign 13 = .ok (.iload_n 1, 1) := by decide +kernel
theorem dX0_textSign_14 : decode cX0_textSign 14 = .ok (.if_icmp .ne 12, 3) := by decide +kernel
theorem dX0_textSign_17 : decode cX0_textSign 17 = .ok (.bipush 97, 2) := by decide +kernel
theorem dX0_textSign_19 : decode cX0_textSign 19 = .ok (.aload_n 0, 1) := by decide +kernel
theorem dX0_textSign_20 : decode cX0_textSign 20 = .ok (.iload_n 3, 1) := by decide +kernel
theorem dX0_textSign_21 : decode cX0_textSign 21 = .ok (.invokevirtual 42, 3) := by decide +kernel
theorem dX0_textSign_24 : decode cX0_textSign 24 = .ok (.iadd, 1) := by decide +kernel
theorem dX0_textSign_25 : decode cX0_textSign 25 = .ok (.ireturn, 1) := by decide +kernel
theorem dX0_textSign_26 : decode cX0_textSign 26 = .ok (.iinc 2 1, 3) := by decide +kernel
theorem dX0_textSign_29 : decode cX0_textSign 29 = .ok (.aload_n 0, 1) := by decide +kernel
theorem dX0_textSign_30 : decode cX0_textSign 30 = .ok (.iload_n 3, 1) := by decide +kernel
theorem dX0_textSign_31 : decode cX0_textSign 31 = .ok (.invokevirtual 45, 3) := by decide +kernel
theorem dX0_textSign_34 : decode cX0_textSign 34 = .ok (.ifCond .eq 14, 3) := by decide +kernel
theorem dX0_textSign_37 : decode cX0_textSign 37 = .ok (.iload_n 2, 1) := by decide +kernel
theorem dX0_textSign_38 : decode cX0_textSign 38 = .ok (.iload_n 1, 1) := by decide +kernel
theorem dX0_textSign_39 : decode cX0_textSign 39 = .ok (.if_icmp .ne 6, 3) := by decide +kernel
theorem dX0_textSign_42 : decode cX0_textSign 42 = .ok (.bipush 44, 2) := by decide +kernel
theorem dX0_textSign_44 : decode cX0_textSign 44 = .ok (.ireturn, 1) := by decide +kernel
theorem dX0_textSign_45 : decode cX0_textSign 45 = .ok (.iinc 2 1, 3) := by decide +kernel
theorem dX0_textSign_48 : decode cX0_textSign 48 = .ok (.iinc 3 1, 3) := by decide +kernel
theorem dX0_textSign_51 : decode cX0_textSign 51 = .ok (.goto (-47), 3) := by decide +kernel
theorem dX0_textSign_54 : decode cX0_textSign 54 = .ok (.bipush (-4), 2) := by decide +kernel
theorem dX0_textSign_56 : decode cX0_textSign 56 = .ok (.ireturn, 1) := by decide +kernel
theorem dX1_init_0 : decode cX1_init 0 = .ok (.aload_n 0, 1) := by decide +kernel
theorem dX1_init_1 : decode cX1_init 1 = .ok (.invokespecial 3, 3) := by decide +kernel
theorem dX1_init_4 : decode cX1_init 4 = .ok (.aload_n 0, 1) := by decide +kernel
theorem dX1_init_5 : decode cX1_init 5 = .ok (.bipush 60, 2) := by decide +kernel
theorem dX1_init_7 : decode cX1_init 7 = .ok (.newarray .int, 2) := by decide +kernel
theorem dX1_init_9 : decode cX1_init 9 = .ok (.putfield 9, 3) := by decide +kernel
theorem dX1_init_12 : decode cX1_init 12 = .ok (.return_, 1) := by decide +kernel
theorem dX1_signAt_0 : decode cX1_signAt 0 = .ok (.iload_n 1, 1) := by decide +kernel
theorem dX1_signAt_1 : decode cX1_signAt 1 = .ok (.aload_n 0, 1) := by decide +kernel
theorem dX1_signAt_2 : decode cX1_signAt 2 = .ok (.getfield 15, 3) := by decide +kernel
theorem dX1_signAt_5 : decode cX1_signAt 5 = .ok (.if_icmp .ge 14, 3) := by decide +kernel
theorem dX1_signAt_8 : decode cX1_signAt 8 = .ok (.aload_n 0, 1) := by decide +kernel
theorem dX1_signAt_9 : decode cX1_signAt 9 = .ok (.getfield 9, 3) := by decide +kernel
theorem dX1_signAt_12 : decode cX1_signAt 12 = .ok (.iload_n 1, 1) := by decide +kernel
theorem dX1_signAt_13 : decode cX1_signAt 13 = .ok (.invokestatic 19, 3) := by decide +kernel
theorem dX1_signAt_16 : decode cX1_signAt 16 = .ok (.goto 4, 3) := by decide +kernel
theorem dX1_signAt_19 : decode cX1_signAt 19 = .ok (.iconst 0, 1) := by decide +kernel
theorem dX1_signAt_20 : decode cX1_signAt 20 = .ok (.ireturn, 1) := by decide +kernel
theorem dX1_editionFault_0 : decode cX1_editionFault 0 = .ok (.iconst 0, 1) := by decide +kernel
theorem dX1_editionFault_1 : decode cX1_editionFault 1 = .ok (.istore_n 1, 1) := by decide +kernel
theorem dX1_editionFault_2 : decode cX1_editionFault 2 = .ok (.iconst 1, 1) := by decide +kernel
theorem dX1_editionFault_3 : decode cX1_editionFault 3 = .ok (.istore_n 2, 1) := by decide +kernel
theorem dX1_editionFault_4 : decode cX1_editionFault 4 = .ok (.iconst 0, 1) := by decide +kernel
theorem dX1_editionFault_5 : decode cX1_editionFault 5 = .ok (.istore_n 3, 1) := by decide +kernel
theorem dX1_editionFault_6 : decode cX1_editionFault 6 = .ok (.iload_n 3, 1) := by decide +kernel
theorem dX1_editionFault_7 : decode cX1_editionFault 7 = .ok (.aload_n 0, 1) := by decide +kernel
theorem dX1_editionFault_8 : decode cX1_editionFault 8 = .ok (.getfield 15, 3) := by decide +kernel
theorem dX1_editionFault_11 : decode cX1_editionFault 11 = .ok (.if_icmp .ge 84, 3) := by decide +kernel
theorem dX1_editionFault_14 : decode cX1_editionFault 14 = .ok (.aload_n 0, 1) := by decide +kernel
theorem dX1_editionFault_15 : decode cX1_editionFault 15 = .ok (.iload_n 3, 1) := by decide +kernel
theorem dX1_editionFault_16 : decode cX1_editionFault 16 = .ok (.invokevirtual 23, 3) := by decide +kernel
theorem dX1_editionFault_19 : decode cX1_editionFault 19 = .ok (.istore 4, 2) := by decide +kernel
theorem dX1_editionFault_21 : decode cX1_editionFault 21 = .ok (.iload 4, 2) := by decide +kernel
theorem dX1_editionFault_23 : decode cX1_editionFault 23 = .ok (.bipush 97, 2) := by decide +kernel
theorem dX1_editionFault_25 : decode cX1_editionFault 25 = .ok (.bipush 102, 2) := by decide +kernel
theorem dX1_editionFault_27 : decode cX1_editionFault 27 = .ok (.invokestatic 27, 3) := by decide +kernel
theorem dX1_editionFault_30 : decode cX1_editionFault 30 = .ok (.ifCond .ne 14, 3) := by decide +kernel
theorem dX1_editionFault_33 : decode cX1_editionFault 33 = .ok (.iload 4, 2) := by decide +kernel
theorem dX1_editionFault_35 : decode cX1_editionFault 35 = .ok (.bipush 44, 2) := by decide +kernel
theorem dX1_editionFault_37 : decode cX1_editionFault 37 = .ok (.if_icmp .ne 11, 3) := by decide +kernel
theorem dX1_editionFault_40 : decode cX1_editionFault 40 = .ok (.iload_n 2, 1) := by decide +kernel
theorem dX1_editionFault_41 : decode cX1_editionFault 41 = .ok (.ifCond .ne 7, 3) := by decide +kernel
theorem dX1_editionFault_44 : decode cX1_editionFault 44 = .ok (.iconst 1, 1) := by decide +kernel
theorem dX1_editionFault_45 : decode cX1_editionFault 45 = .ok (.goto 4, 3) := by decide +kernel
theorem dX1_editionFault_48 : decode cX1_editionFault 48 = .ok (.iconst 0, 1) := by decide +kernel
theorem dX1_editionFault_49 : decode cX1_editionFault 49 = .ok (.istore 5, 2) := by decide +kernel
theorem dX1_editionFault_51 : decode cX1_editionFault 51 = .ok (.iload 5, 2) := by decide +kernel
theorem dX1_editionFault_53 : decode cX1_editionFault 53 = .ok (.ifCond .eq 9, 3) := by decide +kernel
theorem dX1_editionFault_56 : decode cX1_editionFault 56 = .ok (.iload_n 1, 1) := by decide +kernel
theorem dX1_editionFault_57 : decode cX1_editionFault 57 = .ok (.bipush 12, 2) := by decide +kernel
theorem dX1_editionFault_59 : decode cX1_editionFault 59 = .ok (.if_icmp .lt 5, 3) := by decide +kernel
theorem dX1_editionFault_62 : decode cX1_editionFault 62 = .ok (.iload_n 3, 1) := by decide +kernel
theorem dX1_editionFault_63 : decode cX1_editionFault 63 = .ok (.ireturn, 1) := by decide +kernel
theorem dX1_editionFault_64 : decode cX1_editionFault 64 = .ok (.iload 4, 2) := by decide +kernel
theorem dX1_editionFault_66 : decode cX1_editionFault 66 = .ok (.bipush 44, 2) := by decide +kernel
theorem dX1_editionFault_68 : decode cX1_editionFault 68 = .ok (.if_icmp .ne 7, 3) := by decide +kernel
theorem dX1_editionFault_71 : decode cX1_editionFault 71 = .ok (.iconst 1, 1) := by decide +kernel
theorem dX1_editionFault_72 : decode cX1_editionFault 72 = .ok (.goto 4, 3) := by decide +kernel
theorem dX1_editionFault_75 : decode cX1_editionFault 75 = .ok (.iconst 0, 1) := by decide +kernel
theorem dX1_editionFault_76 : decode cX1_editionFault 76 = .ok (.istore_n 2, 1) := by decide +kernel
theorem dX1_editionFault_77 : decode cX1_editionFault 77 = .ok (.iload_n 1, 1) := by decide +kernel
theorem dX1_editionFault_78 : decode cX1_editionFault 78 = .ok (.iload_n 2, 1) := by decide +kernel
theorem dX1_editionFault_79 : decode cX1_editionFault 79 = .ok (.ifCond .eq 7, 3) := by decide +kernel
theorem dX1_editionFault_82 : decode cX1_editionFault 82 = .ok (.iconst 0, 1) := by decide +kernel
theorem dX1_editionFault_83 : decode cX1_editionFault 83 = .ok (.goto 4, 3) := by decide +kernel
theorem dX1_editionFault_86 : decode cX1_editionFault 86 = .ok (.iconst 1, 1) := by decide +kernel
theorem dX1_editionFault_87 : decode cX1_editionFault 87 = .ok (.iadd, 1) := by decide +kernel
theorem dX1_editionFault_88 : decode cX1_editionFault 88 = .ok (.istore_n 1, 1) := by decide +kernel
theorem dX1_editionFault_89 : decode cX1_editionFault 89 = .ok (.iinc 3 1, 3) := by decide +kernel
theorem dX1_editionFault_92 : decode cX1_editionFault 92 = .ok (.goto (-86), 3) := by decide +kernel
theorem dX1_editionFault_95 : decode cX1_editionFault 95 = .ok (.iload_n 2, 1) := by decide +kernel
theorem dX1_editionFault_96 : decode cX1_editionFault 96 = .ok (.ifCond .eq 10, 3) := by decide +kernel
theorem dX1_editionFault_99 : decode cX1_editionFault 99 = .ok (.aload_n 0, 1) := by decide +kernel
theorem dX1_editionFault_100 : decode cX1_editionFault 100 = .ok (.getfield 15, 3) := by decide +kernel
theorem dX1_editionFault_103 : decode cX1_editionFault 103 = .ok (.goto 4, 3) := by decide +kernel
theorem dX1_editionFault_106 : decode cX1_editionFault 106 = .ok (.iconst (-1), 1) := by decide +kernel
theorem dX1_editionFault_107 : decode cX1_editionFault 107 = .ok (.ireturn, 1) := by decide +kernel
theorem dX1_suitsFault_0 : decode cX1_suitsFault 0 = .ok (.iconst 0, 1) := by decide +kernel
theorem dX1_suitsFault_1 : decode cX1_suitsFault 1 = .ok (.istore_n 1, 1) := by decide +kernel
theorem dX1_suitsFault_2 : decode cX1_suitsFault 2 = .ok (.iconst 0, 1) := by decide +kernel
theorem dX1_suitsFault_3 : decode cX1_suitsFault 3 = .ok (.istore_n 2, 1) := by decide +kernel
theorem dX1_suitsFault_4 : decode cX1_suitsFault 4 = .ok (.iload_n 2, 1) := by decide +kernel
theorem dX1_suitsFault_5 : decode cX1_suitsFault 5 = .ok (.aload_n 0, 1) := by decide +kernel
theorem dX1_suitsFault_6 : decode cX1_suitsFault 6 = .ok (.getfield 15, 3) := by decide +kernel
theorem dX1_suitsFault_9 : decode cX1_suitsFault 9 = .ok (.if_icmp .ge 26, 3) := by decide +kernel
theorem dX1_suitsFault_12 : decode cX1_suitsFault 12 = .ok (.iload_n 1, 1) := by decide +kernel
theorem dX1_suitsFault_13 : decode cX1_suitsFault 13 = .ok (.aload_n 0, 1) := by decide +kernel
theorem dX1_suitsFault_14 : decode cX1_suitsFault 14 = .ok (.iload_n 2, 1) := by decide +kernel
theorem dX1_suitsFault_15 : decode cX1_suitsFault 15 = .ok (.invokevirtual 23, 3) := by decide +kernel
theorem dX1_suitsFault_18 : decode cX1_suitsFault 18 = .ok (.invokestatic 31, 3) := by decide +kernel
theorem dX1_suitsFault_21 : decode cX1_suitsFault 21 = .ok (.istore_n 1, 1) := by decide +kernel
theorem dX1_suitsFault_22 : decode cX1_suitsFault 22 = .ok (.iload_n 1, 1) := by decide +kernel
theorem dX1_suitsFault_23 : decode cX1_suitsFault 23 = .ok (.iconst (-1), 1) := by decide +kernel
theorem dX1_suitsFault_24 : decode cX1_suitsFault 24 = .ok (.if_icmp .ne 5, 3) := by decide +kernel
theorem dX1_suitsFault_27 : decode cX1_suitsFault 27 = .ok (.iload_n 2, 1) := by decide +kernel
theorem dX1_suitsFault_28 : decode cX1_suitsFault 28 = .ok (.ireturn, 1) := by decide +kernel
theorem dX1_suitsFault_29 : decode cX1_suitsFault 29 = .ok (.iinc 2 1, 3) := by decide +kernel
theorem dX1_suitsFault_32 : decode cX1_suitsFault 32 = .ok (.goto (-28), 3) := by decide +kernel
theorem dX1_suitsFault_35 : decode cX1_suitsFault 35 = .ok (.iload_n 1, 1) := by decide +kernel
theorem dX1_suitsFault_36 : decode cX1_suitsFault 36 = .ok (.iconst 3, 1) := by decide +kernel
theorem dX1_suitsFault_37 : decode cX1_suitsFault 37 = .ok (.if_icmp .eq 8, 3) := by decide +kernel
theorem dX1_suitsFault_40 : decode cX1_suitsFault 40 = .ok (.iload_n 1, 1) := by decide +kernel
theorem dX1_suitsFault_41 : decode cX1_suitsFault 41 = .ok (.iconst 4, 1) := by decide +kernel
theorem dX1_suitsFault_42 : decode cX1_suitsFault 42 = .ok (.if_icmp .ne 7, 3) := by decide +kernel
theorem dX1_suitsFault_45 : decode cX1_suitsFault 45 = .ok (.iconst (-1), 1) := by decide +kernel
theorem dX1_suitsFault_46 : decode cX1_suitsFault 46 = .ok (.goto 7, 3) := by decide +kernel
theorem dX1_suitsFault_49 : decode cX1_suitsFault 49 = .ok (.aload_n 0, 1) := by decide +kernel
theorem dX1_suitsFault_50 : decode cX1_suitsFault 50 = .ok (.getfield 15, 3) := by decide +kernel
theorem dX1_suitsFault_53 : decode cX1_suitsFault 53 = .ok (.ireturn, 1) := by decide +kernel
theorem dX1_dueBehind_0 : decode cX1_dueBehind 0 = .ok (.iload_n 0, 1) := by decide +kernel
theorem dX1_dueBehind_1 : decode cX1_dueBehind 1 = .ok (.tableswitch 113 0 3 #[31, 56, 68, 93], 31) := by decide +kernel
theorem dX1_dueBehind_32 : decode cX1_dueBehind 32 = .ok (.iload_n 1, 1) := by decide +kernel
theorem dX1_dueBehind_33 : decode cX1_dueBehind 33 = .ok (.bipush 43, 2) := by decide +kernel
theorem dX1_dueBehind_35 : decode cX1_dueBehind 35 = .ok (.if_icmp .ne 5, 3) := by decide +kernel
theorem dX1_dueBehind_38 : decode cX1_dueBehind 38 = .ok (.iconst 4, 1) := by decide +kernel
theorem dX1_dueBehind_39 : decode cX1_dueBehind 39 = .ok (.ireturn, 1) := by decide +kernel
theorem dX1_dueBehind_40 : decode cX1_dueBehind 40 = .ok (.iload_n 1, 1) := by decide +kernel
theorem dX1_dueBehind_41 : decode cX1_dueBehind 41 = .ok (.bipush 48, 2) := by decide +kernel
theorem dX1_dueBehind_43 : decode cX1_dueBehind 43 = .ok (.bipush 51, 2) := by decide +kernel
theorem dX1_dueBehind_45 : decode cX1_dueBehind 45 = .ok (.invokestatic 27, 3) := by decide +kernel
theorem dX1_dueBehind_48 : decode cX1_dueBehind 48 = .ok (.ifCond .eq 7, 3) := by decide +kernel
theorem dX1_dueBehind_51 : decode cX1_dueBehind 51 = .ok (.iconst 1, 1) := by decide +kernel
theorem dX1_dueBehind_52 : decode cX1_dueBehind 52 = .ok (.goto 4, 3) := by decide +kernel
theorem dX1_dueBehind_55 : decode cX1_dueBehind 55 = .ok (.iconst (-1), 1) := by decide +kernel
theorem dX1_dueBehind_56 : decode cX1_dueBehind 56 = .ok (.ireturn, 1) := by decide +kernel
theorem dX1_dueBehind_57 : decode cX1_dueBehind 57 = .ok (.iload_n 1, 1) := by decide +kernel
theorem dX1_dueBehind_58 : decode cX1_dueBehind 58 = .ok (.bipush 58, 2) := by decide +kernel
theorem dX1_dueBehind_60 : decode cX1_dueBehind 60 = .ok (.if_icmp .ne 7, 3) := by decide +kernel
theorem dX1_dueBehind_63 : decode cX1_dueBehind 63 = .ok (.iconst 2, 1) := by decide +kernel
theorem dX1_dueBehind_64 : decode cX1_dueBehind 64 = .ok (.goto 4, 3) := by decide +kernel
theorem dX1_dueBehind_67 : decode cX1_dueBehind 67 = .ok (.iconst (-1), 1) := by decide +kernel
theorem dX1_dueBehind_68 : decode cX1_dueBehind 68 = .ok (.ireturn, 1) := by decide +kernel
theorem dX1_dueBehind_69 : decode cX1_dueBehind 69 = .ok (.iload_n 1, 1) := by decide +kernel
theorem dX1_dueBehind_70 : decode cX1_dueBehind 70 = .ok (.bipush 49, 2) := by decide +kernel
theorem dX1_dueBehind_72 : decode cX1_dueBehind 72 = .ok (.if_icmp .ne 5, 3) := by decide +kernel
theorem dX1_dueBehind_75 : decode cX1_dueBehind 75 = .ok (.iconst 3, 1) := by decide +kernel
theorem dX1_dueBehind_76 : decode cX1_dueBehind 76 = .ok (.ireturn, 1) := by decide +kernel
theorem dX1_dueBehind_77 : decode cX1_dueBehind 77 = .ok (.iload_n 1, 1) := by decide +kernel
theorem dX1_dueBehind_78 : decode cX1_dueBehind 78 = .ok (.bipush 48, 2) := by decide +kernel
theorem dX1_dueBehind_80 : decode cX1_dueBehind 80 = .ok (.bipush 57, 2) := by decide +kernel
theorem dX1_dueBehind_82 : decode cX1_dueBehind 82 = .ok (.invokestatic 27, 3) := by decide +kernel
theorem dX1_dueBehind_85 : decode cX1_dueBehind 85 = .ok (.ifCond .eq 7, 3) := by decide +kernel
theorem dX1_dueBehind_88 : decode cX1_dueBehind 88 = .ok (.iconst 4, 1) := by decide +kernel
theorem dX1_dueBehind_89 : decode cX1_dueBehind 89 = .ok (.goto 4, 3) := by decide +kernel
theorem dX1_dueBehind_92 : decode cX1_dueBehind 92 = .ok (.iconst (-1), 1) := by decide +kernel
theorem dX1_dueBehind_93 : decode cX1_dueBehind 93 = .ok (.ireturn, 1) := by decide +kernel
theorem dX1_dueBehind_94 : decode cX1_dueBehind 94 = .ok (.iload_n 1, 1) := by decide +kernel
theorem dX1_dueBehind_95 : decode cX1_dueBehind 95 = .ok (.bipush 48, 2) := by decide +kernel
theorem dX1_dueBehind_97 : decode cX1_dueBehind 97 = .ok (.if_icmp .ne 5, 3) := by decide +kernel
theorem dX1_dueBehind_100 : decode cX1_dueBehind 100 = .ok (.iconst 4, 1) := by decide +kernel
theorem dX1_dueBehind_101 : decode cX1_dueBehind 101 = .ok (.ireturn, 1) := by decide +kernel
theorem dX1_dueBehind_102 : decode cX1_dueBehind 102 = .ok (.iload_n 1, 1) := by decide +kernel
theorem dX1_dueBehind_103 : decode cX1_dueBehind 103 = .ok (.bipush 59, 2) := by decide +kernel
theorem dX1_dueBehind_105 : decode cX1_dueBehind 105 = .ok (.if_icmp .ne 7, 3) := by decide +kernel
theorem dX1_dueBehind_108 : decode cX1_dueBehind 108 = .ok (.iconst 0, 1) := by decide +kernel
theorem dX1_dueBehind_109 : decode cX1_dueBehind 109 = .ok (.goto 4, 3) := by decide +kernel
theorem dX1_dueBehind_112 : decode cX1_dueBehind 112 = .ok (.iconst (-1), 1) := by decide +kernel
theorem dX1_dueBehind_113 : decode cX1_dueBehind 113 = .ok (.ireturn, 1) := by decide +kernel
theorem dX1_dueBehind_114 : decode cX1_dueBehind 114 = .ok (.iload_n 1, 1) := by decide +kernel
theorem dX1_dueBehind_115 : decode cX1_dueBehind 115 = .ok (.bipush 59, 2) := by decide +kernel
theorem dX1_dueBehind_117 : decode cX1_dueBehind 117 = .ok (.if_icmp .ne 7, 3) := by decide +kernel
theorem dX1_dueBehind_120 : decode cX1_dueBehind 120 = .ok (.iconst 0, 1) := by decide +kernel
theorem dX1_dueBehind_121 : decode cX1_dueBehind 121 = .ok (.goto 4, 3) := by decide +kernel
theorem dX1_dueBehind_124 : decode cX1_dueBehind 124 = .ok (.iconst (-1), 1) := by decide +kernel
theorem dX1_dueBehind_125 : decode cX1_dueBehind 125 = .ok (.ireturn, 1) := by decide +kernel
theorem dX1_beginsPart_0 : decode cX1_beginsPart 0 = .ok (.iload_n 1, 1) := by decide +kernel
theorem dX1_beginsPart_1 : decode cX1_beginsPart 1 = .ok (.ifCond .eq 15, 3) := by decide +kernel
theorem dX1_beginsPart_4 : decode cX1_beginsPart 4 = .ok (.aload_n 0, 1) := by decide +kernel
theorem dX1_beginsPart_5 : decode cX1_beginsPart 5 = .ok (.iload_n 1, 1) := by decide +kernel
theorem dX1_beginsPart_6 : decode cX1_beginsPart 6 = .ok (.iconst 1, 1) := by decide +kernel
theorem dX1_beginsPart_7 : decode cX1_beginsPart 7 = .ok (.isub, 1) := by decide +kernel
theorem dX1_beginsPart_8 : decode cX1_beginsPart 8 = .ok (.invokevirtual 23, 3) := by decide +kernel
theorem dX1_beginsPart_11 : decode cX1_beginsPart 11 = .ok (.bipush 59, 2) := by decide +kernel
theorem dX1_beginsPart_13 : decode cX1_beginsPart 13 = .ok (.if_icmp .ne 7, 3) := by decide +kernel
theorem dX1_beginsPart_16 : decode cX1_beginsPart 16 = .ok (.iconst 1, 1) := by decide +kernel
theorem dX1_beginsPart_17 : decode cX1_beginsPart 17 = .ok (.goto 4, 3) := by decide +kernel
theorem dX1_beginsPart_20 : decode cX1_beginsPart 20 = .ok (.iconst 0, 1) := by decide +kernel
theorem dX1_beginsPart_21 : decode cX1_beginsPart 21 = .ok (.ireturn, 1) := by decide +kernel
theorem dX1_gapAt_0 : decode cX1_gapAt 0 = .ok (.aload_n 0, 1) := by decide +kernel
theorem dX1_gapAt_1 : decode cX1_gapAt 1 = .ok (.iload_n 1, 1) := by decide +kernel
theorem dX1_gapAt_2 : decode cX1_gapAt 2 = .ok (.iconst 1, 1) := by decide +kernel
theorem dX1_gapAt_3 : decode cX1_gapAt 3 = .ok (.iadd, 1) := by decide +kernel
theorem dX1_gapAt_4 : decode cX1_gapAt 4 = .ok (.invokevirtual 23, 3) := by decide +kernel
theorem dX1_gapAt_7 : decode cX1_gapAt 7 = .ok (.istore_n 2, 1) := by decide +kernel
theorem dX1_gapAt_8 : decode cX1_gapAt 8 = .ok (.iload_n 2, 1) := by decide +kernel
theorem dX1_gapAt_9 : decode cX1_gapAt 9 = .ok (.bipush 48, 2) := by decide +kernel
theorem dX1_gapAt_11 : decode cX1_gapAt 11 = .ok (.bipush 57, 2) := by decide +kernel
theorem dX1_gapAt_13 : decode cX1_gapAt 13 = .ok (.invokestatic 27, 3) := by decide +kernel
theorem dX1_gapAt_16 : decode cX1_gapAt 16 = .ok (.ifCond .eq 13, 3) := by decide +kernel
theorem dX1_gapAt_19 : decode cX1_gapAt 19 = .ok (.bipush 10, 2) := by decide +kernel
theorem dX1_gapAt_21 : decode cX1_gapAt 21 = .ok (.iload_n 2, 1) := by decide +kernel
theorem dX1_gapAt_22 : decode cX1_gapAt 22 = .ok (.iadd, 1) := by decide +kernel
theorem dX1_gapAt_23 : decode cX1_gapAt 23 = .ok (.bipush 48, 2) := by decide +kernel
theorem dX1_gapAt_25 : decode cX1_gapAt 25 = .ok (.isub, 1) := by decide +kernel
theorem dX1_gapAt_26 : decode cX1_gapAt 26 = .ok (.goto 11, 3) := by decide +kernel
theorem dX1_gapAt_29 : decode cX1_gapAt 29 = .ok (.aload_n 0, 1) := by decide +kernel
theorem dX1_gapAt_30 : decode cX1_gapAt 30 = .ok (.iload_n 1, 1) := by decide +kernel
theorem dX1_gapAt_31 : decode cX1_gapAt 31 = .ok (.invokevirtual 23, 3) := by decide +kernel
theorem dX1_gapAt_34 : decode cX1_gapAt 34 = .ok (.bipush 48, 2) := by decide +kernel
theorem dX1_gapAt_36 : decode cX1_gapAt 36 = .ok (.isub, 1) := by decide +kernel
theorem dX1_gapAt_37 : decode cX1_gapAt 37 = .ok (.ireturn, 1) := by decide +kernel
theorem dX1_writeTo_0 : decode cX1_writeTo 0 = .ok (.aload_n 1, 1) := by decide +kernel
theorem dX1_writeTo_1 : decode cX1_writeTo 1 = .ok (.iconst 0, 1) := by decide +kernel
theorem dX1_writeTo_2 : decode cX1_writeTo 2 = .ok (.putfield 35, 3) := by decide +kernel
theorem dX1_writeTo_5 : decode cX1_writeTo 5 = .ok (.aload_n 1, 1) := by decide +kernel
theorem dX1_writeTo_6 : decode cX1_writeTo 6 = .ok (.iconst 0, 1) := by decide +kernel
theorem dX1_writeTo_7 : decode cX1_writeTo 7 = .ok (.putfield 40, 3) := by decide +kernel
theorem dX1_writeTo_10 : decode cX1_writeTo 10 = .ok (.iconst 0, 1) := by decide +kernel
theorem dX1_writeTo_11 : decode cX1_writeTo 11 = .ok (.istore_n 2, 1) := by decide +kernel
theorem dX1_writeTo_12 : decode cX1_writeTo 12 = .ok (.iload_n 2, 1) := by decide +kernel
theorem dX1_writeTo_13 : decode cX1_writeTo 13 = .ok (.aload_n 0, 1) := by decide +kernel
theorem dX1_writeTo_14 : decode cX1_writeTo 14 = .ok (.getfield 15, 3) := by decide +kernel
theorem dX1_writeTo_17 : decode cX1_writeTo 17 = .ok (.if_icmp .ge 66, 3) := by decide +kernel
theorem dX1_writeTo_20 : decode cX1_writeTo 20 = .ok (.aload_n 0, 1) := by decide +kernel
theorem dX1_writeTo_21 : decode cX1_writeTo 21 = .ok (.iload_n 2, 1) := by decide +kernel
theorem dX1_writeTo_22 : decode cX1_writeTo 22 = .ok (.invokevirtual 23, 3) := by decide +kernel
theorem dX1_writeTo_25 : decode cX1_writeTo 25 = .ok (.istore_n 3, 1) := by decide +kernel
theorem dX1_writeTo_26 : decode cX1_writeTo 26 = .ok (.iload_n 3, 1) := by decide +kernel
theorem dX1_writeTo_27 : decode cX1_writeTo 27 = .ok (.bipush 44, 2) := by decide +kernel
theorem dX1_writeTo_29 : decode cX1_writeTo 29 = .ok (.if_icmp .ne 23, 3) := by decide +kernel
theorem dX1_writeTo_32 : decode cX1_writeTo 32 = .ok (.aload_n 1, 1) := by decide +kernel
theorem dX1_writeTo_33 : decode cX1_writeTo 33 = .ok (.dup, 1) := by decide +kernel
theorem dX1_writeTo_34 : decode cX1_writeTo 34 = .ok (.getfield 40, 3) := by decide +kernel
theorem dX1_writeTo_37 : decode cX1_writeTo 37 = .ok (.iconst 1, 1) := by decide +kernel
theorem dX1_writeTo_38 : decode cX1_writeTo 38 = .ok (.aload_n 1, 1) := by decide +kernel
theorem dX1_writeTo_39 : decode cX1_writeTo 39 = .ok (.getfield 35, 3) := by decide +kernel
theorem dX1_writeTo_42 : decode cX1_writeTo 42 = .ok (.iconst 1, 1) := by decide +kernel
theorem dX1_writeTo_43 : decode cX1_writeTo 43 = .ok (.isub, 1) := by decide +kernel
theorem dX1_writeTo_44 : decode cX1_writeTo 44 = .ok (.ishl, 1) := by decide +kernel
theorem dX1_writeTo_45 : decode cX1_writeTo 45 = .ok (.ior, 1) := by decide +kernel
theorem dX1_writeTo_46 : decode cX1_writeTo 46 = .ok (.putfield 40, 3) := by decide +kernel
theorem dX1_writeTo_49 : decode cX1_writeTo 49 = .ok (.goto 28, 3) := by decide +kernel
theorem dX1_writeTo_52 : decode cX1_writeTo 52 = .ok (.aload_n 1, 1) := by decide +kernel
theorem dX1_writeTo_53 : decode cX1_writeTo 53 = .ok (.getfield 43, 3) := by decide +kernel
theorem dX1_writeTo_56 : decode cX1_writeTo 56 = .ok (.aload_n 1, 1) := by decide +kernel
theorem dX1_writeTo_57 : decode cX1_writeTo 57 = .ok (.getfield 35, 3) := by decide +kernel
theorem dX1_writeTo_60 : decode cX1_writeTo 60 = .ok (.iload_n 3, 1) := by decide +kernel
theorem dX1_writeTo_61 : decode cX1_writeTo 61 = .ok (.bipush 97, 2) := by decide +kernel
theorem dX1_writeTo_63 : decode cX1_writeTo 63 = .ok (.isub, 1) := by decide +kernel
theorem dX1_writeTo_64 : decode cX1_writeTo 64 = .ok (.invokestatic 46, 3) := by decide +kernel
theorem dX1_writeTo_67 : decode cX1_writeTo 67 = .ok (.aload_n 1, 1) := by decide +kernel
theorem dX1_writeTo_68 : decode cX1_writeTo 68 = .ok (.dup, 1) := by decide +kernel
theorem dX1_writeTo_69 : decode cX1_writeTo 69 = .ok (.getfield 35, 3) := by decide +kernel
theorem dX1_writeTo_72 : decode cX1_writeTo 72 = .ok (.iconst 1, 1) := by decide +kernel
theorem dX1_writeTo_73 : decode cX1_writeTo 73 = .ok (.iadd, 1) := by decide +kernel
theorem dX1_writeTo_74 : decode cX1_writeTo 74 = .ok (.putfield 35, 3) := by decide +kernel
theorem dX1_writeTo_77 : decode cX1_writeTo 77 = .ok (.iinc 2 1, 3) := by decide +kernel
theorem dX1_writeTo_80 : decode cX1_writeTo 80 = .ok (.goto (-68), 3) := by decide +kernel
theorem dX1_writeTo_83 : decode cX1_writeTo 83 = .ok (.return_, 1) := by decide +kernel
theorem dX2_init_0 : decode cX2_init 0 = .ok (.aload_n 0, 1) := by decide +kernel
theorem dX2_init_1 : decode cX2_init 1 = .ok (.invokespecial 1, 3) := by decide +kernel
theorem dX2_init_4 : decode cX2_init 4 = .ok (.return_, 1) := by decide +kernel
theorem dX2_copyFrom_0 : decode cX2_copyFrom 0 = .ok (.aload_n 0, 1) := by decide +kernel
theorem dX2_copyFrom_1 : decode cX2_copyFrom 1 = .ok (.aload_n 1, 1) := by decide +kernel
theorem dX2_copyFrom_2 : decode cX2_copyFrom 2 = .ok (.getfield 7, 3) := by decide +kernel
theorem dX2_copyFrom_5 : decode cX2_copyFrom 5 = .ok (.putfield 7, 3) := by decide +kernel
theorem dX2_copyFrom_8 : decode cX2_copyFrom 8 = .ok (.aload_n 0, 1) := by decide +kernel
theorem dX2_copyFrom_9 : decode cX2_copyFrom 9 = .ok (.aload_n 1, 1) := by decide +kernel
theorem dX2_copyFrom_10 : decode cX2_copyFrom 10 = .ok (.getfield 13, 3) := by decide +kernel
theorem dX2_copyFrom_13 : decode cX2_copyFrom 13 = .ok (.putfield 13, 3) := by decide +kernel
theorem dX2_copyFrom_16 : decode cX2_copyFrom 16 = .ok (.aload_n 0, 1) := by decide +kernel
theorem dX2_copyFrom_17 : decode cX2_copyFrom 17 = .ok (.aload_n 1, 1) := by decide +kernel
theorem dX2_copyFrom_18 : decode cX2_copyFrom 18 = .ok (.getfield 16, 3) := by decide +kernel
theorem dX2_copyFrom_21 : decode cX2_copyFrom 21 = .ok (.putfield 16, 3) := by decide +kernel
theorem dX2_copyFrom_24 : decode cX2_copyFrom 24 = .ok (.aload_n 0, 1) := by decide +kernel
theorem dX2_copyFrom_25 : decode cX2_copyFrom 25 = .ok (.aload_n 1, 1) := by decide +kernel
theorem dX2_copyFrom_26 : decode cX2_copyFrom 26 = .ok (.getfield 20, 3) := by decide +kernel
theorem dX2_copyFrom_29 : decode cX2_copyFrom 29 = .ok (.putfield 20, 3) := by decide +kernel
theorem dX2_copyFrom_32 : decode cX2_copyFrom 32 = .ok (.aload_n 0, 1) := by decide +kernel
theorem dX2_copyFrom_33 : decode cX2_copyFrom 33 = .ok (.aload_n 1, 1) := by decide +kernel
theorem dX2_copyFrom_34 : decode cX2_copyFrom 34 = .ok (.getfield 23, 3) := by decide +kernel
theorem dX2_copyFrom_37 : decode cX2_copyFrom 37 = .ok (.putfield 23, 3) := by decide +kernel
theorem dX2_copyFrom_40 : decode cX2_copyFrom 40 = .ok (.aload_n 0, 1) := by decide +kernel
theorem dX2_copyFrom_41 : decode cX2_copyFrom 41 = .ok (.aload_n 1, 1) := by decide +kernel
theorem dX2_copyFrom_42 : decode cX2_copyFrom 42 = .ok (.getfield 26, 3) := by decide +kernel
theorem dX2_copyFrom_45 : decode cX2_copyFrom 45 = .ok (.putfield 26, 3) := by decide +kernel
theorem dX2_copyFrom_48 : decode cX2_copyFrom 48 = .ok (.aload_n 0, 1) := by decide +kernel
theorem dX2_copyFrom_49 : decode cX2_copyFrom 49 = .ok (.aload_n 1, 1) := by decide +kernel
theorem dX2_copyFrom_50 : decode cX2_copyFrom 50 = .ok (.getfield 29, 3) := by decide +kernel
theorem dX2_copyFrom_53 : decode cX2_copyFrom 53 = .ok (.putfield 29, 3) := by decide +kernel
theorem dX2_copyFrom_56 : decode cX2_copyFrom 56 = .ok (.return_, 1) := by decide +kernel
theorem dX2_fineFor_0 : decode cX2_fineFor 0 = .ok (.aload_n 0, 1) := by decide +kernel
theorem dX2_fineFor_1 : decode cX2_fineFor 1 = .ok (.getfield 16, 3) := by decide +kernel
theorem dX2_fineFor_4 : decode cX2_fineFor 4 = .ok (.iload_n 1, 1) := by decide +kernel
theorem dX2_fineFor_5 : decode cX2_fineFor 5 = .ok (.if_icmp .ne 7, 3) := by decide +kernel
theorem dX2_fineFor_8 : decode cX2_fineFor 8 = .ok (.iconst 0, 1) := by decide +kernel
theorem dX2_fineFor_9 : decode cX2_fineFor 9 = .ok (.goto 7, 3) := by decide +kernel
theorem dX2_fineFor_12 : decode cX2_fineFor 12 = .ok (.aload_n 0, 1) := by decide +kernel
theorem dX2_fineFor_13 : decode cX2_fineFor 13 = .ok (.getfield 20, 3) := by decide +kernel
theorem dX2_fineFor_16 : decode cX2_fineFor 16 = .ok (.ireturn, 1) := by decide +kernel
theorem dX3_init_0 : decode cX3_init 0 = .ok (.aload_n 0, 1) := by decide +kernel
theorem dX3_init_1 : decode cX3_init 1 = .ok (.invokespecial 3, 3) := by decide +kernel
theorem dX3_init_4 : decode cX3_init 4 = .ok (.aload_n 0, 1) := by decide +kernel
theorem dX3_init_5 : decode cX3_init 5 = .ok (.bipush 12, 2) := by decide +kernel
theorem dX3_init_7 : decode cX3_init 7 = .ok (.newarray .int, 2) := by decide +kernel
theorem dX3_init_9 : decode cX3_init 9 = .ok (.putfield 9, 3) := by decide +kernel
theorem dX3_init_12 : decode cX3_init 12 = .ok (.aload_n 0, 1) := by decide +kernel
theorem dX3_init_13 : decode cX3_init 13 = .ok (.bipush 12, 2) := by decide +kernel
theorem dX3_init_15 : decode cX3_init 15 = .ok (.newarray .int, 2) := by decide +kernel
theorem dX3_init_17 : decode cX3_init 17 = .ok (.putfield 15, 3) := by decide +kernel
theorem dX3_init_20 : decode cX3_init 20 = .ok (.aload_n 0, 1) := by decide +kernel
theorem dX3_init_21 : decode cX3_init 21 = .ok (.bipush 12, 2) := by decide +kernel
theorem dX3_init_23 : decode cX3_init 23 = .ok (.newarray .int, 2) := by decide +kernel
theorem dX3_init_25 : decode cX3_init 25 = .ok (.putfield 18, 3) := by decide +kernel
theorem dX3_init_28 : decode cX3_init 28 = .ok (.aload_n 0, 1) := by decide +kernel
theorem dX3_init_29 : decode cX3_init 29 = .ok (.bipush 13, 2) := by decide +kernel
theorem dX3_init_31 : decode cX3_init 31 = .ok (.newarray .int, 2) := by decide +kernel
theorem dX3_init_33 : decode cX3_init 33 = .ok (.putfield 21, 3) := by decide +kernel
theorem dX3_init_36 : decode cX3_init 36 = .ok (.return_, 1) := by decide +kernel
theorem dX3_read_0 : decode cX3_read 0 = .ok (.aload_n 0, 1) := by decide +kernel
theorem dX3_read_1 : decode cX3_read 1 = .ok (.aload_n 2, 1) := by decide +kernel
theorem dX3_read_2 : decode cX3_read 2 = .ok (.getfield 24, 3) := by decide +kernel
theorem dX3_read_5 : decode cX3_read 5 = .ok (.putfield 30, 3) := by decide +kernel
theorem dX3_read_8 : decode cX3_read 8 = .ok (.aload_n 0, 1) := by decide +kernel
theorem dX3_read_9 : decode cX3_read 9 = .ok (.aload_n 1, 1) := by decide +kernel
theorem dX3_read_10 : decode cX3_read 10 = .ok (.getfield 31, 3) := by decide +kernel
theorem dX3_read_13 : decode cX3_read 13 = .ok (.iconst 0, 1) := by decide +kernel
theorem dX3_read_14 : decode cX3_read 14 = .ok (.invokestatic 36, 3) := by decide +kernel
theorem dX3_read_17 : decode cX3_read 17 = .ok (.putfield 40, 3) := by decide +kernel
theorem dX3_read_20 : decode cX3_read 20 = .ok (.aload_n 0, 1) := by decide +kernel
theorem dX3_read_21 : decode cX3_read 21 = .ok (.aload_n 1, 1) := by decide +kernel
theorem dX3_read_22 : decode cX3_read 22 = .ok (.getfield 31, 3) := by decide +kernel
theorem dX3_read_25 : decode cX3_read 25 = .ok (.iconst 1, 1) := by decide +kernel
theorem dX3_read_26 : decode cX3_read 26 = .ok (.invokestatic 36, 3) := by decide +kernel
theorem dX3_read_29 : decode cX3_read 29 = .ok (.putfield 43, 3) := by decide +kernel
theorem dX3_read_32 : decode cX3_read 32 = .ok (.iconst 0, 1) := by decide +kernel
theorem dX3_read_33 : decode cX3_read 33 = .ok (.istore_n 3, 1) := by decide +kernel
theorem dX3_read_34 : decode cX3_read 34 = .ok (.iload_n 3, 1) := by decide +kernel
theorem dX3_read_35 : decode cX3_read 35 = .ok (.aload_n 0, 1) := by decide +kernel
theorem dX3_read_36 : decode cX3_read 36 = .ok (.getfield 30, 3) := by decide +kernel
theorem dX3_read_39 : decode cX3_read 39 = .ok (.if_icmp .ge 29, 3) := by decide +kernel
theorem dX3_read_42 : decode cX3_read 42 = .ok (.aload_n 0, 1) := by decide +kernel
theorem dX3_read_43 : decode cX3_read 43 = .ok (.getfield 9, 3) := by decide +kernel
theorem dX3_read_46 : decode cX3_read 46 = .ok (.iload_n 3, 1) := by decide +kernel
theorem dX3_read_47 : decode cX3_read 47 = .ok (.aload_n 1, 1) := by decide +kernel
theorem dX3_read_48 : decode cX3_read 48 = .ok (.getfield 46, 3) := by decide +kernel
theorem dX3_read_51 : decode cX3_read 51 = .ok (.aload_n 2, 1) := by decide +kernel
theorem dX3_read_52 : decode cX3_read 52 = .ok (.iload_n 3, 1) := by decide +kernel
theorem dX3_read_53 : decode cX3_read 53 = .ok (.invokevirtual 47, 3) := by decide +kernel
theorem dX3_read_56 : decode cX3_read 56 = .ok (.invokestatic 36, 3) := by decide +kernel
theorem dX3_read_59 : decode cX3_read 59 = .ok (.invokestatic 51, 3) := by decide +kernel
theorem dX3_read_62 : decode cX3_read 62 = .ok (.iinc 3 1, 3) := by decide +kernel
theorem dX3_read_65 : decode cX3_read 65 = .ok (.goto (-31), 3) := by decide +kernel
theorem dX3_read_68 : decode cX3_read 68 = .ok (.iconst 0, 1) := by decide +kernel
theorem dX3_read_69 : decode cX3_read 69 = .ok (.istore_n 3, 1) := by decide +kernel
theorem dX3_read_70 : decode cX3_read 70 = .ok (.iload_n 3, 1) := by decide +kernel
theorem dX3_read_71 : decode cX3_read 71 = .ok (.aload_n 0, 1) := by decide +kernel
theorem dX3_read_72 : decode cX3_read 72 = .ok (.getfield 30, 3) := by decide +kernel
theorem dX3_read_75 : decode cX3_read 75 = .ok (.iconst 1, 1) := by decide +kernel
theorem dX3_read_76 : decode cX3_read 76 = .ok (.isub, 1) := by decide +kernel
theorem dX3_read_77 : decode cX3_read 77 = .ok (.if_icmp .ge 67, 3) := by decide +kernel
theorem dX3_read_80 : decode cX3_read 80 = .ok (.aload_n 1, 1) := by decide +kernel
theorem dX3_read_81 : decode cX3_read 81 = .ok (.aload_n 1, 1) := by decide +kernel
theorem dX3_read_82 : decode cX3_read 82 = .ok (.aload_n 2, 1) := by decide +kernel
theorem dX3_read_83 : decode cX3_read 83 = .ok (.iload_n 3, 1) := by decide +kernel
theorem dX3_read_84 : decode cX3_read 84 = .ok (.invokevirtual 55, 3) := by decide +kernel
theorem dX3_read_87 : decode cX3_read 87 = .ok (.invokevirtual 59, 3) := by decide +kernel
theorem dX3_read_90 : decode cX3_read 90 = .ok (.astore 4, 2) := by decide +kernel
theorem dX3_read_92 : decode cX3_read 92 = .ok (.aload_n 0, 1) := by decide +kernel
theorem dX3_read_93 : decode cX3_read 93 = .ok (.getfield 15, 3) := by decide +kernel
theorem dX3_read_96 : decode cX3_read 96 = .ok (.iload_n 3, 1) := by decide +kernel
theorem dX3_read_97 : decode cX3_read 97 = .ok (.aload 4, 2) := by decide +kernel
theorem dX3_read_99 : decode cX3_read 99 = .ok (.ifnonnull 7, 3) := by decide +kernel
theorem dX3_read_102 : decode cX3_read 102 = .ok (.iconst 0, 1) := by decide +kernel
theorem dX3_read_103 : decode cX3_read 103 = .ok (.goto 9, 3) := by decide +kernel
theorem dX3_read_106 : decode cX3_read 106 = .ok (.aload 4, 2) := by decide +kernel
theorem dX3_read_108 : decode cX3_read 108 = .ok (.iconst 1, 1) := by decide +kernel
theorem dX3_read_109 : decode cX3_read 109 = .ok (.invokevirtual 63, 3) := by decide +kernel
theorem dX3_read_112 : decode cX3_read 112 = .ok (.invokestatic 51, 3) := by decide +kernel
theorem dX3_read_115 : decode cX3_read 115 = .ok (.aload_n 0, 1) := by decide +kernel
theorem dX3_read_116 : decode cX3_read 116 = .ok (.getfield 18, 3) := by decide +kernel
theorem dX3_read_119 : decode cX3_read 119 = .ok (.iload_n 3, 1) := by decide +kernel
theorem dX3_read_120 : decode cX3_read 120 = .ok (.aload 4, 2) := by decide +kernel
theorem dX3_read_122 : decode cX3_read 122 = .ok (.ifnonnull 7, 3) := by decide +kernel
theorem dX3_read_125 : decode cX3_read 125 = .ok (.iconst 0, 1) := by decide +kernel
theorem dX3_read_126 : decode cX3_read 126 = .ok (.goto 9, 3) := by decide +kernel
theorem dX3_read_129 : decode cX3_read 129 = .ok (.aload 4, 2) := by decide +kernel
theorem dX3_read_131 : decode cX3_read 131 = .ok (.iconst 0, 1) := by decide +kernel
theorem dX3_read_132 : decode cX3_read 132 = .ok (.invokevirtual 63, 3) := by decide +kernel
theorem dX3_read_135 : decode cX3_read 135 = .ok (.invokestatic 51, 3) := by decide +kernel
theorem dX3_read_138 : decode cX3_read 138 = .ok (.iinc 3 1, 3) := by decide +kernel
theorem dX3_read_141 : decode cX3_read 141 = .ok (.goto (-71), 3) := by decide +kernel
theorem dX3_read_144 : decode cX3_read 144 = .ok (.return_, 1) := by decide +kernel
theorem dX3_wholeWeight_0 : decode cX3_wholeWeight 0 = .ok (.iconst 0, 1) := by decide +kernel
theorem dX3_wholeWeight_1 : decode cX3_wholeWeight 1 = .ok (.istore_n 1, 1) := by decide +kernel
theorem dX3_wholeWeight_2 : decode cX3_wholeWeight 2 = .ok (.iconst 0, 1) := by decide +kernel
theorem dX3_wholeWeight_3 : decode cX3_wholeWeight 3 = .ok (.istore_n 2, 1) := by decide +kernel
theorem dX3_wholeWeight_4 : decode cX3_wholeWeight 4 = .ok (.iload_n 2, 1) := by decide +kernel
theorem dX3_wholeWeight_5 : decode cX3_wholeWeight 5 = .ok (.aload_n 0, 1) := by decide +kernel
theorem dX3_wholeWeight_6 : decode cX3_wholeWeight 6 = .ok (.getfield 30, 3) := by decide +kernel
theorem dX3_wholeWeight_9 : decode cX3_wholeWeight 9 = .ok (.if_icmp .ge 20, 3) := by decide +kernel
theorem dX3_wholeWeight_12 : decode cX3_wholeWeight 12 = .ok (.iload_n 1, 1) := by decide +kernel
theorem dX3_wholeWeight_13 : decode cX3_wholeWeight 13 = .ok (.aload_n 0, 1) := by decide +kernel
theorem dX3_wholeWeight_14 : decode cX3_wholeWeight 14 = .ok (.getfield 9, 3) := by decide +kernel
theorem dX3_wholeWeight_17 : decode cX3_wholeWeight 17 = .ok (.iload_n 2, 1) := by decide +kernel
theorem dX3_wholeWeight_18 : decode cX3_wholeWeight 18 = .ok (.invokestatic 36, 3) := by decide +kernel
theorem dX3_wholeWeight_21 : decode cX3_wholeWeight 21 = .ok (.iadd, 1) := by decide +kernel
theorem dX3_wholeWeight_22 : decode cX3_wholeWeight 22 = .ok (.istore_n 1, 1) := by decide +kernel
theorem dX3_wholeWeight_23 : decode cX3_wholeWeight 23 = .ok (.iinc 2 1, 3) := by decide +kernel
theorem dX3_wholeWeight_26 : decode cX3_wholeWeight 26 = .ok (.goto (-22), 3) := by decide +kernel
theorem dX3_wholeWeight_29 : decode cX3_wholeWeight 29 = .ok (.iload_n 1, 1) := by decide +kernel
theorem dX3_wholeWeight_30 : decode cX3_wholeWeight 30 = .ok (.ireturn, 1) := by decide +kernel
theorem dX3_clauseCost_0 : decode cX3_clauseCost 0 = .ok (.iload_n 1, 1) := by decide +kernel
theorem dX3_clauseCost_1 : decode cX3_clauseCost 1 = .ok (.aload_n 0, 1) := by decide +kernel
theorem dX3_clauseCost_2 : decode cX3_clauseCost 2 = .ok (.getfield 40, 3) := by decide +kernel
theorem dX3_clauseCost_5 : decode cX3_clauseCost 5 = .ok (.isub, 1) := by decide +kernel
theorem dX3_clauseCost_6 : decode cX3_clauseCost 6 = .ok (.invokestatic 69, 3) := by decide +kernel
theorem dX3_clauseCost_9 : decode cX3_clauseCost 9 = .ok (.ireturn, 1) := by decide +kernel
theorem dX3_clausesCost_0 : decode cX3_clausesCost 0 = .ok (.iconst 0, 1) := by decide +kernel
theorem dX3_clausesCost_1 : decode cX3_clausesCost 1 = .ok (.istore_n 2, 1) := by decide +kernel
theorem dX3_clausesCost_2 : decode cX3_clausesCost 2 = .ok (.iconst 0, 1) := by decide +kernel
theorem dX3_clausesCost_3 : decode cX3_clausesCost 3 = .ok (.istore_n 3, 1) := by decide +kernel
theorem dX3_clausesCost_4 : decode cX3_clausesCost 4 = .ok (.iconst 0, 1) := by decide +kernel
theorem dX3_clausesCost_5 : decode cX3_clausesCost 5 = .ok (.istore 4, 2) := by decide +kernel
theorem dX3_clausesCost_7 : decode cX3_clausesCost 7 = .ok (.iload 4, 2) := by decide +kernel
theorem dX3_clausesCost_9 : decode cX3_clausesCost 9 = .ok (.aload_n 0, 1) := by decide +kernel
theorem dX3_clausesCost_10 : decode cX3_clausesCost 10 = .ok (.getfield 30, 3) := by decide +kernel
theorem dX3_clausesCost_13 : decode cX3_clausesCost 13 = .ok (.if_icmp .ge 52, 3) := by decide +kernel
theorem dX3_clausesCost_16 : decode cX3_clausesCost 16 = .ok (.iload_n 3, 1) := by decide +kernel
theorem dX3_clausesCost_17 : decode cX3_clausesCost 17 = .ok (.aload_n 0, 1) := by decide +kernel
theorem dX3_clausesCost_18 : decode cX3_clausesCost 18 = .ok (.getfield 9, 3) := by decide +kernel
theorem dX3_clausesCost_21 : decode cX3_clausesCost 21 = .ok (.iload 4, 2) := by decide +kernel
theorem dX3_clausesCost_23 : decode cX3_clausesCost 23 = .ok (.invokestatic 36, 3) := by decide +kernel
theorem dX3_clausesCost_26 : decode cX3_clausesCost 26 = .ok (.iadd, 1) := by decide +kernel
theorem dX3_clausesCost_27 : decode cX3_clausesCost 27 = .ok (.istore_n 3, 1) := by decide +kernel
theorem dX3_clausesCost_28 : decode cX3_clausesCost 28 = .ok (.iload 4, 2) := by decide +kernel
theorem dX3_clausesCost_30 : decode cX3_clausesCost 30 = .ok (.aload_n 0, 1) := by decide +kernel
theorem dX3_clausesCost_31 : decode cX3_clausesCost 31 = .ok (.getfield 30, 3) := by decide +kernel
theorem dX3_clausesCost_34 : decode cX3_clausesCost 34 = .ok (.iconst 1, 1) := by decide +kernel
theorem dX3_clausesCost_35 : decode cX3_clausesCost 35 = .ok (.isub, 1) := by decide +kernel
theorem dX3_clausesCost_36 : decode cX3_clausesCost 36 = .ok (.if_icmp .eq 13, 3) := by decide +kernel
theorem dX3_clausesCost_39 : decode cX3_clausesCost 39 = .ok (.iload_n 1, 1) := by decide +kernel
theorem dX3_clausesCost_40 : decode cX3_clausesCost 40 = .ok (.iload 4, 2) := by decide +kernel
theorem dX3_clausesCost_42 : decode cX3_clausesCost 42 = .ok (.ishr, 1) := by decide +kernel
theorem dX3_clausesCost_43 : decode cX3_clausesCost 43 = .ok (.iconst 1, 1) := by decide +kernel
theorem dX3_clausesCost_44 : decode cX3_clausesCost 44 = .ok (.iand, 1) := by decide +kernel
theorem dX3_clausesCost_45 : decode cX3_clausesCost 45 = .ok (.iconst 1, 1) := by decide +kernel
theorem dX3_clausesCost_46 : decode cX3_clausesCost 46 = .ok (.if_icmp .ne 13, 3) := by decide +kernel
theorem dX3_clausesCost_49 : decode cX3_clausesCost 49 = .ok (.iload_n 2, 1) := by decide +kernel
theorem dX3_clausesCost_50 : decode cX3_clausesCost 50 = .ok (.aload_n 0, 1) := by decide +kernel
theorem dX3_clausesCost_51 : decode cX3_clausesCost 51 = .ok (.iload_n 3, 1) := by decide +kernel
theorem dX3_clausesCost_52 : decode cX3_clausesCost 52 = .ok (.invokevirtual 74, 3) := by decide +kernel
theorem dX3_clausesCost_55 : decode cX3_clausesCost 55 = .ok (.iadd, 1) := by decide +kernel
theorem dX3_clausesCost_56 : decode cX3_clausesCost 56 = .ok (.istore_n 2, 1) := by decide +kernel
theorem dX3_clausesCost_57 : decode cX3_clausesCost 57 = .ok (.iconst 0, 1) := by decide +kernel
theorem dX3_clausesCost_58 : decode cX3_clausesCost 58 = .ok (.istore_n 3, 1) := by decide +kernel
theorem dX3_clausesCost_59 : decode cX3_clausesCost 59 = .ok (.iinc 4 1, 3) := by decide +kernel
theorem dX3_clausesCost_62 : decode cX3_clausesCost 62 = .ok (.goto (-55), 3) := by decide +kernel
theorem dX3_clausesCost_65 : decode cX3_clausesCost 65 = .ok (.iload_n 2, 1) := by decide +kernel
theorem dX3_clausesCost_66 : decode cX3_clausesCost 66 = .ok (.ireturn, 1) := by decide +kernel
theorem dX3_fines_0 : decode cX3_fines 0 = .ok (.iconst 0, 1) := by decide +kernel
theorem dX3_fines_1 : decode cX3_fines 1 = .ok (.istore_n 2, 1) := by decide +kernel
theorem dX3_fines_2 : decode cX3_fines 2 = .ok (.iconst 0, 1) := by decide +kernel
theorem dX3_fines_3 : decode cX3_fines 3 = .ok (.istore_n 3, 1) := by decide +kernel
theorem dX3_fines_4 : decode cX3_fines 4 = .ok (.iload_n 3, 1) := by decide +kernel
theorem dX3_fines_5 : decode cX3_fines 5 = .ok (.aload_n 0, 1) := by decide +kernel
theorem dX3_fines_6 : decode cX3_fines 6 = .ok (.getfield 30, 3) := by decide +kernel
theorem dX3_fines_9 : decode cX3_fines 9 = .ok (.iconst 1, 1) := by decide +kernel
theorem dX3_fines_10 : decode cX3_fines 10 = .ok (.isub, 1) := by decide +kernel
theorem dX3_fines_11 : decode cX3_fines 11 = .ok (.if_icmp .ge 40, 3) := by decide +kernel
theorem dX3_fines_14 : decode cX3_fines 14 = .ok (.iload_n 2, 1) := by decide +kernel
theorem dX3_fines_15 : decode cX3_fines 15 = .ok (.iload_n 1, 1) := by decide +kernel
theorem dX3_fines_16 : decode cX3_fines 16 = .ok (.iload_n 3, 1) := by decide +kernel
theorem dX3_fines_17 : decode cX3_fines 17 = .ok (.ishr, 1) := by decide +kernel
theorem dX3_fines_18 : decode cX3_fines 18 = .ok (.iconst 1, 1) := by decide +kernel
theorem dX3_fines_19 : decode cX3_fines 19 = .ok (.iand, 1) := by decide +kernel
theorem dX3_fines_20 : decode cX3_fines 20 = .ok (.iconst 1, 1) := by decide +kernel
theorem dX3_fines_21 : decode cX3_fines 21 = .ok (.if_icmp .ne 14, 3) := by decide +kernel
theorem dX3_fines_24 : decode cX3_fines 24 = .ok (.aload_n 0, 1) := by decide +kernel
theorem dX3_fines_25 : decode cX3_fines 25 = .ok (.getfield 15, 3) := by decide +kernel
theorem dX3_fines_28 : decode cX3_fines 28 = .ok (.iload_n 3, 1) := by decide +kernel
theorem dX3_fines_29 : decode cX3_fines 29 = .ok (.invokestatic 36, 3) := by decide +kernel
theorem dX3_fines_32 : decode cX3_fines 32 = .ok (.goto 11, 3) := by decide +kernel
theorem dX3_fines_35 : decode cX3_fines 35 = .ok (.aload_n 0, 1) := by decide +kernel
theorem dX3_fines_36 : decode cX3_fines 36 = .ok (.getfield 18, 3) := by decide +kernel
theorem dX3_fines_39 : decode cX3_fines 39 = .ok (.iload_n 3, 1) := by decide +kernel
theorem dX3_fines_40 : decode cX3_fines 40 = .ok (.invokestatic 36, 3) := by decide +kernel
theorem dX3_fines_43 : decode cX3_fines 43 = .ok (.iadd, 1) := by decide +kernel
theorem dX3_fines_44 : decode cX3_fines 44 = .ok (.istore_n 2, 1) := by decide +kernel
theorem dX3_fines_45 : decode cX3_fines 45 = .ok (.iinc 3 1, 3) := by decide +kernel
theorem dX3_fines_48 : decode cX3_fines 48 = .ok (.goto (-44), 3) := by decide +kernel
theorem dX3_fines_51 : decode cX3_fines 51 = .ok (.iload_n 2, 1) := by decide +kernel
theorem dX3_fines_52 : decode cX3_fines 52 = .ok (.ireturn, 1) := by decide +kernel
theorem dX3_cost_0 : decode cX3_cost 0 = .ok (.aload_n 0, 1) := by decide +kernel
theorem dX3_cost_1 : decode cX3_cost 1 = .ok (.iload_n 1, 1) := by decide +kernel
theorem dX3_cost_2 : decode cX3_cost 2 = .ok (.invokevirtual 77, 3) := by decide +kernel
theorem dX3_cost_5 : decode cX3_cost 5 = .ok (.aload_n 0, 1) := by decide +kernel
theorem dX3_cost_6 : decode cX3_cost 6 = .ok (.iload_n 1, 1) := by decide +kernel
theorem dX3_cost_7 : decode cX3_cost 7 = .ok (.invokevirtual 80, 3) := by decide +kernel
theorem dX3_cost_10 : decode cX3_cost 10 = .ok (.iadd, 1) := by decide +kernel
theorem dX3_cost_11 : decode cX3_cost 11 = .ok (.ireturn, 1) := by decide +kernel
theorem dX3_rank_0 : decode cX3_rank 0 = .ok (.aload_n 0, 1) := by decide +kernel
theorem dX3_rank_1 : decode cX3_rank 1 = .ok (.iload_n 1, 1) := by decide +kernel
theorem dX3_rank_2 : decode cX3_rank 2 = .ok (.invokevirtual 83, 3) := by decide +kernel
theorem dX3_rank_5 : decode cX3_rank 5 = .ok (.ldc 86, 2) := by decide +kernel
theorem dX3_rank_7 : decode cX3_rank 7 = .ok (.imul, 1) := by decide +kernel
theorem dX3_rank_8 : decode cX3_rank 8 = .ok (.iload_n 1, 1) := by decide +kernel
theorem dX3_rank_9 : decode cX3_rank 9 = .ok (.invokestatic 87, 3) := by decide +kernel
theorem dX3_rank_12 : decode cX3_rank 12 = .ok (.sipush 2048, 3) := by decide +kernel
theorem dX3_rank_15 : decode cX3_rank 15 = .ok (.imul, 1) := by decide +kernel
theorem dX3_rank_16 : decode cX3_rank 16 = .ok (.iadd, 1) := by decide +kernel
theorem dX3_rank_17 : decode cX3_rank 17 = .ok (.iload_n 1, 1) := by decide +kernel
theorem dX3_rank_18 : decode cX3_rank 18 = .ok (.iadd, 1) := by decide +kernel
theorem dX3_rank_19 : decode cX3_rank 19 = .ok (.ireturn, 1) := by decide +kernel
theorem dX3_leastRankOfAllSets_0 : decode cX3_leastRankOfAllSets 0 = .ok (.aload_n 0, 1) := by decide +kernel
theorem dX3_leastRankOfAllSets_1 : decode cX3_leastRankOfAllSets 1 = .ok (.iconst 0, 1) := by decide +kernel
theorem dX3_leastRankOfAllSets_2 : decode cX3_leastRankOfAllSets 2 = .ok (.invokevirtual 92, 3) := by decide +kernel
theorem dX3_leastRankOfAllSets_5 : decode cX3_leastRankOfAllSets 5 = .ok (.istore_n 1, 1) := by decide +kernel
theorem dX3_leastRankOfAllSets_6 : decode cX3_leastRankOfAllSets 6 = .ok (.iconst 1, 1) := by decide +kernel
theorem dX3_leastRankOfAllSets_7 : decode cX3_leastRankOfAllSets 7 = .ok (.istore_n 2, 1) := by decide +kernel
theorem dX3_leastRankOfAllSets_8 : decode cX3_leastRankOfAllSets 8 = .ok (.iload_n 2, 1) := by decide +kernel
theorem dX3_leastRankOfAllSets_9 : decode cX3_leastRankOfAllSets 9 = .ok (.iconst 1, 1) := by decide +kernel
theorem dX3_leastRankOfAllSets_10 : decode cX3_leastRankOfAllSets 10 = .ok (.aload_n 0, 1) := by decide +kernel
theorem dX3_leastRankOfAllSets_11 : decode cX3_leastRankOfAllSets 11 = .ok (.getfield 30, 3) := by decide +kernel
theorem dX3_leastRankOfAllSets_14 : decode cX3_leastRankOfAllSets 14 = .ok (.iconst 1, 1) := by decide +kernel
theorem dX3_leastRankOfAllSets_15 : decode cX3_leastRankOfAllSets 15 = .ok (.isub, 1) := by decide +kernel
theorem dX3_leastRankOfAllSets_16 : decode cX3_leastRankOfAllSets 16 = .ok (.ishl, 1) := by decide +kernel
theorem dX3_leastRankOfAllSets_17 : decode cX3_leastRankOfAllSets 17 = .ok (.if_icmp .ge 19, 3) := by decide +kernel
theorem dX3_leastRankOfAllSets_20 : decode cX3_leastRankOfAllSets 20 = .ok (.iload_n 1, 1) := by decide +kernel
theorem dX3_leastRankOfAllSets_21 : decode cX3_leastRankOfAllSets 21 = .ok (.aload_n 0, 1) := by decide +kernel
theorem dX3_leastRankOfAllSets_22 : decode cX3_leastRankOfAllSets 22 = .ok (.iload_n 2, 1) := by decide +kernel
theorem dX3_leastRankOfAllSets_23 : decode cX3_leastRankOfAllSets 23 = .ok (.invokevirtual 92, 3) := by decide +kernel
theorem dX3_leastRankOfAllSets_26 : decode cX3_leastRankOfAllSets 26 = .ok (.invokestatic 95, 3) := by decide +kernel
theorem dX3_leastRankOfAllSets_29 : decode cX3_leastRankOfAllSets 29 = .ok (.istore_n 1, 1) := by decide +kernel
theorem dX3_leastRankOfAllSets_30 : decode cX3_leastRankOfAllSets 30 = .ok (.iinc 2 1, 3) := by decide +kernel
theorem dX3_leastRankOfAllSets_33 : decode cX3_leastRankOfAllSets 33 = .ok (.goto (-25), 3) := by decide +kernel
theorem dX3_leastRankOfAllSets_36 : decode cX3_leastRankOfAllSets 36 = .ok (.iload_n 1, 1) := by decide +kernel
theorem dX3_leastRankOfAllSets_37 : decode cX3_leastRankOfAllSets 37 = .ok (.ireturn, 1) := by decide +kernel
theorem dX3_leastRankByWords_0 : decode cX3_leastRankByWords 0 = .ok (.iconst 1, 1) := by decide +kernel
theorem dX3_leastRankByWords_1 : decode cX3_leastRankByWords 1 = .ok (.istore_n 1, 1) := by decide +kernel
theorem dX3_leastRankByWords_2 : decode cX3_leastRankByWords 2 = .ok (.iload_n 1, 1) := by decide +kernel
theorem dX3_leastRankByWords_3 : decode cX3_leastRankByWords 3 = .ok (.aload_n 0, 1) := by decide +kernel
theorem dX3_leastRankByWords_4 : decode cX3_leastRankByWords 4 = .ok (.getfield 30, 3) := by decide +kernel
theorem dX3_leastRankByWords_7 : decode cX3_leastRankByWords 7 = .ok (.if_icmp .gt 22, 3) := by decide +kernel
theorem dX3_leastRankByWords_10 : decode cX3_leastRankByWords 10 = .ok (.aload_n 0, 1) := by decide +kernel
theorem dX3_leastRankByWords_11 : decode cX3_leastRankByWords 11 = .ok (.getfield 21, 3) := by decide +kernel
theorem dX3_leastRankByWords_14 : decode cX3_leastRankByWords 14 = .ok (.iload_n 1, 1) := by decide +kernel
theorem dX3_leastRankByWords_15 : decode cX3_leastRankByWords 15 = .ok (.aload_n 0, 1) := by decide +kernel
theorem dX3_leastRankByWords_16 : decode cX3_leastRankByWords 16 = .ok (.iload_n 1, 1) := by decide +kernel
theorem dX3_leastRankByWords_17 : decode cX3_leastRankByWords 17 = .ok (.invokevirtual 99, 3) := by decide +kernel
theorem dX3_leastRankByWords_20 : decode cX3_leastRankByWords 20 = .ok (.invokestatic 51, 3) := by decide +kernel
theorem dX3_leastRankByWords_23 : decode cX3_leastRankByWords 23 = .ok (.iinc 1 1, 3) := by decide +kernel
theorem dX3_leastRankByWords_26 : decode cX3_leastRankByWords 26 = .ok (.goto (-24), 3) := by decide +kernel
theorem dX3_leastRankByWords_29 : decode cX3_leastRankByWords 29 = .ok (.aload_n 0, 1) := by decide +kernel
theorem dX3_leastRankByWords_30 : decode cX3_leastRankByWords 30 = .ok (.getfield 21, 3) := by decide +kernel
theorem dX3_leastRankByWords_33 : decode cX3_leastRankByWords 33 = .ok (.aload_n 0, 1) := by decide +kernel
theorem dX3_leastRankByWords_34 : decode cX3_leastRankByWords 34 = .ok (.getfield 30, 3) := by decide +kernel
theorem dX3_leastRankByWords_37 : decode cX3_leastRankByWords 37 = .ok (.invokestatic 36, 3) := by decide +kernel
theorem dX3_leastRankByWords_40 : decode cX3_leastRankByWords 40 = .ok (.ireturn, 1) := by decide +kernel
theorem dX3_leastRankUpTo_0 : decode cX3_leastRankUpTo 0 = .ok (.iconst 0, 1) := by decide +kernel
theorem dX3_leastRankUpTo_1 : decode cX3_leastRankUpTo 1 = .ok (.istore_n 2, 1) := by decide +kernel
theorem dX3_leastRankUpTo_2 : decode cX3_leastRankUpTo 2 = .ok (.iconst 0, 1) := by decide +kernel
theorem dX3_leastRankUpTo_3 : decode cX3_leastRankUpTo 3 = .ok (.istore_n 3, 1) := by decide +kernel
theorem dX3_leastRankUpTo_4 : decode cX3_leastRankUpTo 4 = .ok (.iconst 0, 1) := by decide +kernel
theorem dX3_leastRankUpTo_5 : decode cX3_leastRankUpTo 5 = .ok (.istore 4, 2) := by decide +kernel
theorem dX3_leastRankUpTo_7 : decode cX3_leastRankUpTo 7 = .ok (.iload_n 1, 1) := by decide +kernel
theorem dX3_leastRankUpTo_8 : decode cX3_leastRankUpTo 8 = .ok (.iconst 1, 1) := by decide +kernel
theorem dX3_leastRankUpTo_9 : decode cX3_leastRankUpTo 9 = .ok (.isub, 1) := by decide +kernel
theorem dX3_leastRankUpTo_10 : decode cX3_leastRankUpTo 10 = .ok (.istore 5, 2) := by decide +kernel
theorem dX3_leastRankUpTo_12 : decode cX3_leastRankUpTo 12 = .ok (.iload 5, 2) := by decide +kernel
theorem dX3_leastRankUpTo_14 : decode cX3_leastRankUpTo 14 = .ok (.ifCond .lt 96, 3) := by decide +kernel
theorem dX3_leastRankUpTo_17 : decode cX3_leastRankUpTo 17 = .ok (.iload 5, 2) := by decide +kernel
theorem dX3_leastRankUpTo_19 : decode cX3_leastRankUpTo 19 = .ok (.iload_n 1, 1) := by decide +kernel
theorem dX3_leastRankUpTo_20 : decode cX3_leastRankUpTo 20 = .ok (.iconst 1, 1) := by decide +kernel
theorem dX3_leastRankUpTo_21 : decode cX3_leastRankUpTo 21 = .ok (.isub, 1) := by decide +kernel
theorem dX3_leastRankUpTo_22 : decode cX3_leastRankUpTo 22 = .ok (.if_icmp .ne 7, 3) := by decide +kernel
theorem dX3_leastRankUpTo_25 : decode cX3_leastRankUpTo 25 = .ok (.iconst 1, 1) := by decide +kernel
theorem dX3_leastRankUpTo_26 : decode cX3_leastRankUpTo 26 = .ok (.goto 4, 3) := by decide +kernel
theorem dX3_leastRankUpTo_29 : decode cX3_leastRankUpTo 29 = .ok (.iconst 0, 1) := by decide +kernel
theorem dX3_leastRankUpTo_30 : decode cX3_leastRankUpTo 30 = .ok (.istore 6, 2) := by decide +kernel
theorem dX3_leastRankUpTo_32 : decode cX3_leastRankUpTo 32 = .ok (.iload_n 3, 1) := by decide +kernel
theorem dX3_leastRankUpTo_33 : decode cX3_leastRankUpTo 33 = .ok (.aload_n 0, 1) := by decide +kernel
theorem dX3_leastRankUpTo_34 : decode cX3_leastRankUpTo 34 = .ok (.getfield 9, 3) := by decide +kernel
theorem dX3_leastRankUpTo_37 : decode cX3_leastRankUpTo 37 = .ok (.iload 5, 2) := by decide +kernel
theorem dX3_leastRankUpTo_39 : decode cX3_leastRankUpTo 39 = .ok (.invokestatic 36, 3) := by decide +kernel
theorem dX3_leastRankUpTo_42 : decode cX3_leastRankUpTo 42 = .ok (.iadd, 1) := by decide +kernel
theorem dX3_leastRankUpTo_43 : decode cX3_leastRankUpTo 43 = .ok (.istore_n 3, 1) := by decide +kernel
theorem dX3_leastRankUpTo_44 : decode cX3_leastRankUpTo 44 = .ok (.iload 4, 2) := by decide +kernel
theorem dX3_leastRankUpTo_46 : decode cX3_leastRankUpTo 46 = .ok (.iload 6, 2) := by decide +kernel
theorem dX3_leastRankUpTo_48 : decode cX3_leastRankUpTo 48 = .ok (.ifCond .eq 7, 3) := by decide +kernel
theorem dX3_leastRankUpTo_51 : decode cX3_leastRankUpTo 51 = .ok (.iconst 0, 1) := by decide +kernel
theorem dX3_leastRankUpTo_52 : decode cX3_leastRankUpTo 52 = .ok (.goto 12, 3) := by decide +kernel
theorem dX3_leastRankUpTo_55 : decode cX3_leastRankUpTo 55 = .ok (.aload_n 0, 1) := by decide +kernel
theorem dX3_leastRankUpTo_56 : decode cX3_leastRankUpTo 56 = .ok (.getfield 18, 3) := by decide +kernel
theorem dX3_leastRankUpTo_59 : decode cX3_leastRankUpTo 59 = .ok (.iload 5, 2) := by decide +kernel
theorem dX3_leastRankUpTo_61 : decode cX3_leastRankUpTo 61 = .ok (.invokestatic 36, 3) := by decide +kernel
theorem dX3_leastRankUpTo_64 : decode cX3_leastRankUpTo 64 = .ok (.iadd, 1) := by decide +kernel
theorem dX3_leastRankUpTo_65 : decode cX3_leastRankUpTo 65 = .ok (.istore 4, 2) := by decide +kernel
theorem dX3_leastRankUpTo_67 : decode cX3_leastRankUpTo 67 = .ok (.aload_n 0, 1) := by decide +kernel
theorem dX3_leastRankUpTo_68 : decode cX3_leastRankUpTo 68 = .ok (.iload 5, 2) := by decide +kernel
theorem dX3_leastRankUpTo_70 : decode cX3_leastRankUpTo 70 = .ok (.invokevirtual 102, 3) := by decide +kernel
theorem dX3_leastRankUpTo_73 : decode cX3_leastRankUpTo 73 = .ok (.aload_n 0, 1) := by decide +kernel
theorem dX3_leastRankUpTo_74 : decode cX3_leastRankUpTo 74 = .ok (.iload_n 3, 1) := by decide +kernel
theorem dX3_leastRankUpTo_75 : decode cX3_leastRankUpTo 75 = .ok (.invokevirtual 74, 3) := by decide +kernel
theorem dX3_leastRankUpTo_78 : decode cX3_leastRankUpTo 78 = .ok (.iload 4, 2) := by decide +kernel
theorem dX3_leastRankUpTo_80 : decode cX3_leastRankUpTo 80 = .ok (.iadd, 1) := by decide +kernel
theorem dX3_leastRankUpTo_81 : decode cX3_leastRankUpTo 81 = .ok (.ldc 86, 2) := by decide +kernel
theorem dX3_leastRankUpTo_83 : decode cX3_leastRankUpTo 83 = .ok (.imul, 1) := by decide +kernel
theorem dX3_leastRankUpTo_84 : decode cX3_leastRankUpTo 84 = .ok (.iadd, 1) := by decide +kernel
theorem dX3_leastRankUpTo_85 : decode cX3_leastRankUpTo 85 = .ok (.istore 7, 2) := by decide +kernel
theorem dX3_leastRankUpTo_87 : decode cX3_leastRankUpTo 87 = .ok (.iload 6, 2) := by decide +kernel
theorem dX3_leastRankUpTo_89 : decode cX3_leastRankUpTo 89 = .ok (.ifCond .eq 8, 3) := by decide +kernel
theorem dX3_leastRankUpTo_92 : decode cX3_leastRankUpTo 92 = .ok (.iload 7, 2) := by decide +kernel
theorem dX3_leastRankUpTo_94 : decode cX3_leastRankUpTo 94 = .ok (.goto 9, 3) := by decide +kernel
theorem dX3_leastRankUpTo_97 : decode cX3_leastRankUpTo 97 = .ok (.iload_n 2, 1) := by decide +kernel
theorem dX3_leastRankUpTo_98 : decode cX3_leastRankUpTo 98 = .ok (.iload 7, 2) := by decide +kernel
theorem dX3_leastRankUpTo_100 : decode cX3_leastRankUpTo 100 = .ok (.invokestatic 95, 3) := by decide +kernel
theorem dX3_leastRankUpTo_103 : decode cX3_leastRankUpTo 103 = .ok (.istore_n 2, 1) := by decide +kernel
theorem dX3_leastRankUpTo_104 : decode cX3_leastRankUpTo 104 = .ok (.iinc 5 (-1), 3) := by decide +kernel
theorem dX3_leastRankUpTo_107 : decode cX3_leastRankUpTo 107 = .ok (.goto (-95), 3) := by decide +kernel
theorem dX3_leastRankUpTo_110 : decode cX3_leastRankUpTo 110 = .ok (.iload_n 2, 1) := by decide +kernel
theorem dX3_leastRankUpTo_111 : decode cX3_leastRankUpTo 111 = .ok (.ireturn, 1) := by decide +kernel
theorem dX3_rankUpToClause_0 : decode cX3_rankUpToClause 0 = .ok (.iload_n 1, 1) := by decide +kernel
theorem dX3_rankUpToClause_1 : decode cX3_rankUpToClause 1 = .ok (.ifCond .ne 5, 3) := by decide +kernel
theorem dX3_rankUpToClause_4 : decode cX3_rankUpToClause 4 = .ok (.iconst 0, 1) := by decide +kernel
theorem dX3_rankUpToClause_5 : decode cX3_rankUpToClause 5 = .ok (.ireturn, 1) := by decide +kernel
theorem dX3_rankUpToClause_6 : decode cX3_rankUpToClause 6 = .ok (.iload_n 1, 1) := by decide +kernel
theorem dX3_rankUpToClause_7 : decode cX3_rankUpToClause 7 = .ok (.iconst 1, 1) := by decide +kernel
theorem dX3_rankUpToClause_8 : decode cX3_rankUpToClause 8 = .ok (.isub, 1) := by decide +kernel
theorem dX3_rankUpToClause_9 : decode cX3_rankUpToClause 9 = .ok (.istore_n 2, 1) := by decide +kernel
theorem dX3_rankUpToClause_10 : decode cX3_rankUpToClause 10 = .ok (.aload_n 0, 1) := by decide +kernel
theorem dX3_rankUpToClause_11 : decode cX3_rankUpToClause 11 = .ok (.getfield 21, 3) := by decide +kernel
theorem dX3_rankUpToClause_14 : decode cX3_rankUpToClause 14 = .ok (.iload_n 1, 1) := by decide +kernel
theorem dX3_rankUpToClause_15 : decode cX3_rankUpToClause 15 = .ok (.invokestatic 36, 3) := by decide +kernel
theorem dX3_rankUpToClause_18 : decode cX3_rankUpToClause 18 = .ok (.aload_n 0, 1) := by decide +kernel
theorem dX3_rankUpToClause_19 : decode cX3_rankUpToClause 19 = .ok (.getfield 15, 3) := by decide +kernel
theorem dX3_rankUpToClause_22 : decode cX3_rankUpToClause 22 = .ok (.iload_n 2, 1) := by decide +kernel
theorem dX3_rankUpToClause_23 : decode cX3_rankUpToClause 23 = .ok (.invokestatic 36, 3) := by decide +kernel
theorem dX3_rankUpToClause_26 : decode cX3_rankUpToClause 26 = .ok (.ldc 86, 2) := by decide +kernel
theorem dX3_rankUpToClause_28 : decode cX3_rankUpToClause 28 = .ok (.imul, 1) := by decide +kernel
theorem dX3_rankUpToClause_29 : decode cX3_rankUpToClause 29 = .ok (.iadd, 1) := by decide +kernel
theorem dX3_rankUpToClause_30 : decode cX3_rankUpToClause 30 = .ok (.sipush 2048, 3) := by decide +kernel
theorem dX3_rankUpToClause_33 : decode cX3_rankUpToClause 33 = .ok (.iadd, 1) := by decide +kernel
theorem dX3_rankUpToClause_34 : decode cX3_rankUpToClause 34 = .ok (.iconst 1, 1) := by decide +kernel
theorem dX3_rankUpToClause_35 : decode cX3_rankUpToClause 35 = .ok (.iload_n 2, 1) := by decide +kernel
theorem dX3_rankUpToClause_36 : decode cX3_rankUpToClause 36 = .ok (.ishl, 1) := by decide +kernel
theorem dX3_rankUpToClause_37 : decode cX3_rankUpToClause 37 = .ok (.iadd, 1) := by decide +kernel
theorem dX3_rankUpToClause_38 : decode cX3_rankUpToClause 38 = .ok (.ireturn, 1) := by decide +kernel
theorem dX3_splittingsByWords_0 : decode cX3_splittingsByWords 0 = .ok (.aload_n 0, 1) := by decide +kernel
theorem dX3_splittingsByWords_1 : decode cX3_splittingsByWords 1 = .ok (.getfield 21, 3) := by decide +kernel
theorem dX3_splittingsByWords_4 : decode cX3_splittingsByWords 4 = .ok (.iconst 0, 1) := by decide +kernel
theorem dX3_splittingsByWords_5 : decode cX3_splittingsByWords 5 = .ok (.iconst 1, 1) := by decide +kernel
theorem dX3_splittingsByWords_6 : decode cX3_splittingsByWords 6 = .ok (.invokestatic 51, 3) := by decide +kernel
theorem dX3_splittingsByWords_9 : decode cX3_splittingsByWords 9 = .ok (.iconst 1, 1) := by decide +kernel
theorem dX3_splittingsByWords_10 : decode cX3_splittingsByWords 10 = .ok (.istore_n 1, 1) := by decide +kernel
theorem dX3_splittingsByWords_11 : decode cX3_splittingsByWords 11 = .ok (.iload_n 1, 1) := by decide +kernel
theorem dX3_splittingsByWords_12 : decode cX3_splittingsByWords 12 = .ok (.aload_n 0, 1) := by decide +kernel
theorem dX3_splittingsByWords_13 : decode cX3_splittingsByWords 13 = .ok (.getfield 30, 3) := by decide +kernel
theorem dX3_splittingsByWords_16 : decode cX3_splittingsByWords 16 = .ok (.if_icmp .gt 74, 3) := by decide +kernel
theorem dX3_splittingsByWords_19 : decode cX3_splittingsByWords 19 = .ok (.iconst 0, 1) := by decide +kernel
theorem dX3_splittingsByWords_20 : decode cX3_splittingsByWords 20 = .ok (.istore_n 2, 1) := by decide +kernel
theorem dX3_splittingsByWords_21 : decode cX3_splittingsByWords 21 = .ok (.iconst 0, 1) := by decide +kernel
theorem dX3_splittingsByWords_22 : decode cX3_splittingsByWords 22 = .ok (.istore_n 3, 1) := by decide +kernel
theorem dX3_splittingsByWords_23 : decode cX3_splittingsByWords 23 = .ok (.iload_n 1, 1) := by decide +kernel
theorem dX3_splittingsByWords_24 : decode cX3_splittingsByWords 24 = .ok (.iconst 1, 1) := by decide +kernel
theorem dX3_splittingsByWords_25 : decode cX3_splittingsByWords 25 = .ok (.isub, 1) := by decide +kernel
theorem dX3_splittingsByWords_26 : decode cX3_splittingsByWords 26 = .ok (.istore 4, 2) := by decide +kernel
theorem dX3_splittingsByWords_28 : decode cX3_splittingsByWords 28 = .ok (.iload 4, 2) := by decide +kernel
theorem dX3_splittingsByWords_30 : decode cX3_splittingsByWords 30 = .ok (.ifCond .lt 45, 3) := by decide +kernel
theorem dX3_splittingsByWords_33 : decode cX3_splittingsByWords 33 = .ok (.iload_n 3, 1) := by decide +kernel
theorem dX3_splittingsByWords_34 : decode cX3_splittingsByWords 34 = .ok (.aload_n 0, 1) := by decide +kernel
theorem dX3_splittingsByWords_35 : decode cX3_splittingsByWords 35 = .ok (.getfield 9, 3) := by decide +kernel
theorem dX3_splittingsByWords_38 : decode cX3_splittingsByWords 38 = .ok (.iload 4, 2) := by decide +kernel
theorem dX3_splittingsByWords_40 : decode cX3_splittingsByWords 40 = .ok (.invokestatic 36, 3) := by decide +kernel
theorem dX3_splittingsByWords_43 : decode cX3_splittingsByWords 43 = .ok (.iadd, 1) := by decide +kernel
theorem dX3_splittingsByWords_44 : decode cX3_splittingsByWords 44 = .ok (.istore_n 3, 1) := by decide +kernel
theorem dX3_splittingsByWords_45 : decode cX3_splittingsByWords 45 = .ok (.iload_n 2, 1) := by decide +kernel
theorem dX3_splittingsByWords_46 : decode cX3_splittingsByWords 46 = .ok (.iload_n 3, 1) := by decide +kernel
theorem dX3_splittingsByWords_47 : decode cX3_splittingsByWords 47 = .ok (.aload_n 0, 1) := by decide +kernel
theorem dX3_splittingsByWords_48 : decode cX3_splittingsByWords 48 = .ok (.getfield 43, 3) := by decide +kernel
theorem dX3_splittingsByWords_51 : decode cX3_splittingsByWords 51 = .ok (.if_icmp .gt 15, 3) := by decide +kernel
theorem dX3_splittingsByWords_54 : decode cX3_splittingsByWords 54 = .ok (.aload_n 0, 1) := by decide +kernel
theorem dX3_splittingsByWords_55 : decode cX3_splittingsByWords 55 = .ok (.getfield 21, 3) := by decide +kernel
theorem dX3_splittingsByWords_58 : decode cX3_splittingsByWords 58 = .ok (.iload 4, 2) := by decide +kernel
theorem dX3_splittingsByWords_60 : decode cX3_splittingsByWords 60 = .ok (.invokestatic 36, 3) := by decide +kernel
theorem dX3_splittingsByWords_63 : decode cX3_splittingsByWords 63 = .ok (.goto 4, 3) := by decide +kernel
theorem dX3_splittingsByWords_66 : decode cX3_splittingsByWords 66 = .ok (.iconst 0, 1) := by decide +kernel
theorem dX3_splittingsByWords_67 : decode cX3_splittingsByWords 67 = .ok (.iadd, 1) := by decide +kernel
theorem dX3_splittingsByWords_68 : decode cX3_splittingsByWords 68 = .ok (.istore_n 2, 1) := by decide +kernel
theorem dX3_splittingsByWords_69 : decode cX3_splittingsByWords 69 = .ok (.iinc 4 (-1), 3) := by decide +kernel
theorem dX3_splittingsByWords_72 : decode cX3_splittingsByWords 72 = .ok (.goto (-44), 3) := by decide +kernel
theorem dX3_splittingsByWords_75 : decode cX3_splittingsByWords 75 = .ok (.aload_n 0, 1) := by decide +kernel
theorem dX3_splittingsByWords_76 : decode cX3_splittingsByWords 76 = .ok (.getfield 21, 3) := by decide +kernel
theorem dX3_splittingsByWords_79 : decode cX3_splittingsByWords 79 = .ok (.iload_n 1, 1) := by decide +kernel
theorem dX3_splittingsByWords_80 : decode cX3_splittingsByWords 80 = .ok (.iload_n 2, 1) := by decide +kernel
theorem dX3_splittingsByWords_81 : decode cX3_splittingsByWords 81 = .ok (.invokestatic 51, 3) := by decide +kernel
theorem dX3_splittingsByWords_84 : decode cX3_splittingsByWords 84 = .ok (.iinc 1 1, 3) := by decide +kernel
theorem dX3_splittingsByWords_87 : decode cX3_splittingsByWords 87 = .ok (.goto (-76), 3) := by decide +kernel
theorem dX3_splittingsByWords_90 : decode cX3_splittingsByWords 90 = .ok (.aload_n 0, 1) := by decide +kernel
theorem dX3_splittingsByWords_91 : decode cX3_splittingsByWords 91 = .ok (.getfield 21, 3) := by decide +kernel
theorem dX3_splittingsByWords_94 : decode cX3_splittingsByWords 94 = .ok (.aload_n 0, 1) := by decide +kernel
theorem dX3_splittingsByWords_95 : decode cX3_splittingsByWords 95 = .ok (.getfield 30, 3) := by decide +kernel
theorem dX3_splittingsByWords_98 : decode cX3_splittingsByWords 98 = .ok (.invokestatic 36, 3) := by decide +kernel
theorem dX3_splittingsByWords_101 : decode cX3_splittingsByWords 101 = .ok (.ireturn, 1) := by decide +kernel
theorem dX4_init_0 : decode cX4_init 0 = .ok (.aload_n 0, 1) := by decide +kernel
theorem dX4_init_1 : decode cX4_init 1 = .ok (.invokespecial 3, 3) := by decide +kernel
theorem dX4_init_4 : decode cX4_init 4 = .ok (.aload_n 0, 1) := by decide +kernel
theorem dX4_init_5 : decode cX4_init 5 = .ok (.bipush 6, 2) := by decide +kernel
theorem dX4_init_7 : decode cX4_init 7 = .ok (.newarray .int, 2) := by decide +kernel
theorem dX4_init_9 : decode cX4_init 9 = .ok (.putfield 9, 3) := by decide +kernel
theorem dX4_init_12 : decode cX4_init 12 = .ok (.aload_n 0, 1) := by decide +kernel
theorem dX4_init_13 : decode cX4_init 13 = .ok (.iconst 2, 1) := by decide +kernel
theorem dX4_init_14 : decode cX4_init 14 = .ok (.newarray .int, 2) := by decide +kernel
theorem dX4_init_16 : decode cX4_init 16 = .ok (.putfield 15, 3) := by decide +kernel
theorem dX4_init_19 : decode cX4_init 19 = .ok (.aload_n 0, 1) := by decide +kernel
theorem dX4_init_20 : decode cX4_init 20 = .ok (.iconst 4, 1) := by decide +kernel
theorem dX4_init_21 : decode cX4_init 21 = .ok (.anewarray 18, 3) := by decide +kernel
theorem dX4_init_24 : decode cX4_init 24 = .ok (.putfield 20, 3) := by decide +kernel
theorem dX4_init_27 : decode cX4_init 27 = .ok (.aload_n 0, 1) := by decide +kernel
theorem dX4_init_28 : decode cX4_init 28 = .ok (.bipush 10, 2) := by decide +kernel
theorem dX4_init_30 : decode cX4_init 30 = .ok (.anewarray 24, 3) := by decide +kernel
theorem dX4_init_33 : decode cX4_init 33 = .ok (.putfield 26, 3) := by decide +kernel
theorem dX4_init_36 : decode cX4_init 36 = .ok (.iconst 0, 1) := by decide +kernel
theorem dX4_init_37 : decode cX4_init 37 = .ok (.istore_n 1, 1) := by decide +kernel
theorem dX4_init_38 : decode cX4_init 38 = .ok (.iload_n 1, 1) := by decide +kernel
theorem dX4_init_39 : decode cX4_init 39 = .ok (.bipush 6, 2) := by decide +kernel
theorem dX4_init_41 : decode cX4_init 41 = .ok (.if_icmp .ge 20, 3) := by decide +kernel
theorem dX4_init_44 : decode cX4_init 44 = .ok (.aload_n 0, 1) := by decide +kernel
theorem dX4_init_45 : decode cX4_init 45 = .ok (.getfield 9, 3) := by decide +kernel
theorem dX4_init_48 : decode cX4_init 48 = .ok (.iload_n 1, 1) := by decide +kernel
theorem dX4_init_49 : decode cX4_init 49 = .ok (.iload_n 1, 1) := by decide +kernel
theorem dX4_init_50 : decode cX4_init 50 = .ok (.iconst 1, 1) := by decide +kernel
theorem dX4_init_51 : decode cX4_init 51 = .ok (.iadd, 1) := by decide +kernel
theorem dX4_init_52 : decode cX4_init 52 = .ok (.invokestatic 30, 3) := by decide +kernel
theorem dX4_init_55 : decode cX4_init 55 = .ok (.iinc 1 1, 3) := by decide +kernel
theorem dX4_init_58 : decode cX4_init 58 = .ok (.goto (-20), 3) := by decide +kernel
theorem dX4_init_61 : decode cX4_init 61 = .ok (.aload_n 0, 1) := by decide +kernel
theorem dX4_init_62 : decode cX4_init 62 = .ok (.getfield 15, 3) := by decide +kernel
theorem dX4_init_65 : decode cX4_init 65 = .ok (.iconst 0, 1) := by decide +kernel
theorem dX4_init_66 : decode cX4_init 66 = .ok (.bipush 8, 2) := by decide +kernel
theorem dX4_init_68 : decode cX4_init 68 = .ok (.invokestatic 30, 3) := by decide +kernel
theorem dX4_init_71 : decode cX4_init 71 = .ok (.aload_n 0, 1) := by decide +kernel
theorem dX4_init_72 : decode cX4_init 72 = .ok (.getfield 15, 3) := by decide +kernel
theorem dX4_init_75 : decode cX4_init 75 = .ok (.iconst 1, 1) := by decide +kernel
theorem dX4_init_76 : decode cX4_init 76 = .ok (.bipush 15, 2) := by decide +kernel
theorem dX4_init_78 : decode cX4_init 78 = .ok (.invokestatic 30, 3) := by decide +kernel
theorem dX4_init_81 : decode cX4_init 81 = .ok (.iconst 0, 1) := by decide +kernel
theorem dX4_init_82 : decode cX4_init 82 = .ok (.istore_n 1, 1) := by decide +kernel
theorem dX4_init_83 : decode cX4_init 83 = .ok (.iload_n 1, 1) := by decide +kernel
theorem dX4_init_84 : decode cX4_init 84 = .ok (.aload_n 0, 1) := by decide +kernel
theorem dX4_init_85 : decode cX4_init 85 = .ok (.getfield 20, 3) := by decide +kernel
theorem dX4_init_88 : decode cX4_init 88 = .ok (.arraylength, 1) := by decide +kernel
theorem dX4_init_89 : decode cX4_init 89 = .ok (.if_icmp .ge 22, 3) := by decide +kernel
theorem dX4_init_92 : decode cX4_init 92 = .ok (.aload_n 0, 1) := by decide +kernel
theorem dX4_init_93 : decode cX4_init 93 = .ok (.getfield 20, 3) := by decide +kernel
theorem dX4_init_96 : decode cX4_init 96 = .ok (.iload_n 1, 1) := by decide +kernel
theorem dX4_init_97 : decode cX4_init 97 = .ok (.new 18, 3) := by decide +kernel
theorem dX4_init_100 : decode cX4_init 100 = .ok (.dup, 1) := by decide +kernel
theorem dX4_init_101 : decode cX4_init 101 = .ok (.invokespecial 34, 3) := by decide +kernel
theorem dX4_init_104 : decode cX4_init 104 = .ok (.aastore, 1) := by decide +kernel
theorem dX4_init_105 : decode cX4_init 105 = .ok (.iinc 1 1, 3) := by decide +kernel
theorem dX4_init_108 : decode cX4_init 108 = .ok (.goto (-25), 3) := by decide +kernel
theorem dX4_init_111 : decode cX4_init 111 = .ok (.iconst 0, 1) := by decide +kernel
theorem dX4_init_112 : decode cX4_init 112 = .ok (.istore_n 1, 1) := by decide +kernel
theorem dX4_init_113 : decode cX4_init 113 = .ok (.iload_n 1, 1) := by decide +kernel
theorem dX4_init_114 : decode cX4_init 114 = .ok (.aload_n 0, 1) := by decide +kernel
theorem dX4_init_115 : decode cX4_init 115 = .ok (.getfield 26, 3) := by decide +kernel
theorem dX4_init_118 : decode cX4_init 118 = .ok (.arraylength, 1) := by decide +kernel
theorem dX4_init_119 : decode cX4_init 119 = .ok (.if_icmp .ge 22, 3) := by decide +kernel
theorem dX4_init_122 : decode cX4_init 122 = .ok (.aload_n 0, 1) := by decide +kernel
theorem dX4_init_123 : decode cX4_init 123 = .ok (.getfield 26, 3) := by decide +kernel
theorem dX4_init_126 : decode cX4_init 126 = .ok (.iload_n 1, 1) := by decide +kernel
theorem dX4_init_127 : decode cX4_init 127 = .ok (.new 24, 3) := by decide +kernel
theorem dX4_init_130 : decode cX4_init 130 = .ok (.dup, 1) := by decide +kernel
theorem dX4_init_131 : decode cX4_init 131 = .ok (.invokespecial 35, 3) := by decide +kernel
theorem dX4_init_134 : decode cX4_init 134 = .ok (.aastore, 1) := by decide +kernel
theorem dX4_init_135 : decode cX4_init 135 = .ok (.iinc 1 1, 3) := by decide +kernel
theorem dX4_init_138 : decode cX4_init 138 = .ok (.goto (-25), 3) := by decide +kernel
theorem dX4_init_141 : decode cX4_init 141 = .ok (.return_, 1) := by decide +kernel
theorem dX4_copyFrom_0 : decode cX4_copyFrom 0 = .ok (.iconst 0, 1) := by decide +kernel
theorem dX4_copyFrom_1 : decode cX4_copyFrom 1 = .ok (.istore_n 2, 1) := by decide +kernel
theorem dX4_copyFrom_2 : decode cX4_copyFrom 2 = .ok (.iload_n 2, 1) := by decide +kernel
theorem dX4_copyFrom_3 : decode cX4_copyFrom 3 = .ok (.bipush 6, 2) := by decide +kernel
theorem dX4_copyFrom_5 : decode cX4_copyFrom 5 = .ok (.if_icmp .ge 25, 3) := by decide +kernel
theorem dX4_copyFrom_8 : decode cX4_copyFrom 8 = .ok (.aload_n 0, 1) := by decide +kernel
theorem dX4_copyFrom_9 : decode cX4_copyFrom 9 = .ok (.getfield 9, 3) := by decide +kernel
theorem dX4_copyFrom_12 : decode cX4_copyFrom 12 = .ok (.iload_n 2, 1) := by decide +kernel
theorem dX4_copyFrom_13 : decode cX4_copyFrom 13 = .ok (.aload_n 1, 1) := by decide +kernel
theorem dX4_copyFrom_14 : decode cX4_copyFrom 14 = .ok (.getfield 9, 3) := by decide +kernel
theorem dX4_copyFrom_17 : decode cX4_copyFrom 17 = .ok (.iload_n 2, 1) := by decide +kernel
theorem dX4_copyFrom_18 : decode cX4_copyFrom 18 = .ok (.invokestatic 36, 3) := by decide +kernel
theorem dX4_copyFrom_21 : decode cX4_copyFrom 21 = .ok (.invokestatic 30, 3) := by decide +kernel
theorem dX4_copyFrom_24 : decode cX4_copyFrom 24 = .ok (.iinc 2 1, 3) := by decide +kernel
theorem dX4_copyFrom_27 : decode cX4_copyFrom 27 = .ok (.goto (-25), 3) := by decide +kernel
theorem dX4_copyFrom_30 : decode cX4_copyFrom 30 = .ok (.iconst 0, 1) := by decide +kernel
theorem dX4_copyFrom_31 : decode cX4_copyFrom 31 = .ok (.istore_n 2, 1) := by decide +kernel
theorem dX4_copyFrom_32 : decode cX4_copyFrom 32 = .ok (.iload_n 2, 1) := by decide +kernel
theorem dX4_copyFrom_33 : decode cX4_copyFrom 33 = .ok (.iconst 2, 1) := by decide +kernel
theorem dX4_copyFrom_34 : decode cX4_copyFrom 34 = .ok (.if_icmp .ge 25, 3) := by decide +kernel
theorem dX4_copyFrom_37 : decode cX4_copyFrom 37 = .ok (.aload_n 0, 1) := by decide +kernel
theorem dX4_copyFrom_38 : decode cX4_copyFrom 38 = .ok (.getfield 15, 3) := by decide +kernel
theorem dX4_copyFrom_41 : decode cX4_copyFrom 41 = .ok (.iload_n 2, 1) := by decide +kernel
theorem dX4_copyFrom_42 : decode cX4_copyFrom 42 = .ok (.aload_n 1, 1) := by decide +kernel
theorem dX4_copyFrom_43 : decode cX4_copyFrom 43 = .ok (.getfield 15, 3) := by decide +kernel
theorem dX4_copyFrom_46 : decode cX4_copyFrom 46 = .ok (.iload_n 2, 1) := by decide +kernel
theorem dX4_copyFrom_47 : decode cX4_copyFrom 47 = .ok (.invokestatic 36, 3) := by decide +kernel
theorem dX4_copyFrom_50 : decode cX4_copyFrom 50 = .ok (.invokestatic 30, 3) := by decide +kernel
theorem dX4_copyFrom_53 : decode cX4_copyFrom 53 = .ok (.iinc 2 1, 3) := by decide +kernel
theorem dX4_copyFrom_56 : decode cX4_copyFrom 56 = .ok (.goto (-24), 3) := by decide +kernel
theorem dX4_copyFrom_59 : decode cX4_copyFrom 59 = .ok (.aload_n 0, 1) := by decide +kernel
theorem dX4_copyFrom_60 : decode cX4_copyFrom 60 = .ok (.aload_n 1, 1) := by decide +kernel
theorem dX4_copyFrom_61 : decode cX4_copyFrom 61 = .ok (.getfield 40, 3) := by decide +kernel
theorem dX4_copyFrom_64 : decode cX4_copyFrom 64 = .ok (.putfield 40, 3) := by decide +kernel
theorem dX4_copyFrom_67 : decode cX4_copyFrom 67 = .ok (.aload_n 0, 1) := by decide +kernel
theorem dX4_copyFrom_68 : decode cX4_copyFrom 68 = .ok (.aload_n 1, 1) := by decide +kernel
theorem dX4_copyFrom_69 : decode cX4_copyFrom 69 = .ok (.getfield 44, 3) := by decide +kernel
theorem dX4_copyFrom_72 : decode cX4_copyFrom 72 = .ok (.putfield 44, 3) := by decide +kernel
theorem dX4_copyFrom_75 : decode cX4_copyFrom 75 = .ok (.iconst 0, 1) := by decide +kernel
theorem dX4_copyFrom_76 : decode cX4_copyFrom 76 = .ok (.istore_n 2, 1) := by decide +kernel
theorem dX4_copyFrom_77 : decode cX4_copyFrom 77 = .ok (.iload_n 2, 1) := by decide +kernel
theorem dX4_copyFrom_78 : decode cX4_copyFrom 78 = .ok (.aload_n 0, 1) := by decide +kernel
theorem dX4_copyFrom_79 : decode cX4_copyFrom 79 = .ok (.getfield 40, 3) := by decide +kernel
theorem dX4_copyFrom_82 : decode cX4_copyFrom 82 = .ok (.if_icmp .ge 19, 3) := by decide +kernel
theorem dX4_copyFrom_85 : decode cX4_copyFrom 85 = .ok (.aload_n 0, 1) := by decide +kernel
theorem dX4_copyFrom_86 : decode cX4_copyFrom 86 = .ok (.aload_n 1, 1) := by decide +kernel
theorem dX4_copyFrom_87 : decode cX4_copyFrom 87 = .ok (.iload_n 2, 1) := by decide +kernel
theorem dX4_copyFrom_88 : decode cX4_copyFrom 88 = .ok (.invokevirtual 47, 3) := by decide +kernel
theorem dX4_copyFrom_91 : decode cX4_copyFrom 91 = .ok (.iload_n 2, 1) := by decide +kernel
theorem dX4_copyFrom_92 : decode cX4_copyFrom 92 = .ok (.invokevirtual 51, 3) := by decide +kernel
theorem dX4_copyFrom_95 : decode cX4_copyFrom 95 = .ok (.iinc 2 1, 3) := by decide +kernel
theorem dX4_copyFrom_98 : decode cX4_copyFrom 98 = .ok (.goto (-21), 3) := by decide +kernel
theorem dX4_copyFrom_101 : decode cX4_copyFrom 101 = .ok (.iconst 0, 1) := by decide +kernel
theorem dX4_copyFrom_102 : decode cX4_copyFrom 102 = .ok (.istore_n 2, 1) := by decide +kernel
theorem dX4_copyFrom_103 : decode cX4_copyFrom 103 = .ok (.iload_n 2, 1) := by decide +kernel
theorem dX4_copyFrom_104 : decode cX4_copyFrom 104 = .ok (.aload_n 0, 1) := by decide +kernel
theorem dX4_copyFrom_105 : decode cX4_copyFrom 105 = .ok (.getfield 44, 3) := by decide +kernel
theorem dX4_copyFrom_108 : decode cX4_copyFrom 108 = .ok (.if_icmp .ge 37, 3) := by decide +kernel
theorem dX4_copyFrom_111 : decode cX4_copyFrom 111 = .ok (.aload_n 1, 1) := by decide +kernel
theorem dX4_copyFrom_112 : decode cX4_copyFrom 112 = .ok (.iload_n 2, 1) := by decide +kernel
theorem dX4_copyFrom_113 : decode cX4_copyFrom 113 = .ok (.invokevirtual 55, 3) := by decide +kernel
theorem dX4_copyFrom_116 : decode cX4_copyFrom 116 = .ok (.astore_n 3, 1) := by decide +kernel
theorem dX4_copyFrom_117 : decode cX4_copyFrom 117 = .ok (.aload_n 0, 1) := by decide +kernel
theorem dX4_copyFrom_118 : decode cX4_copyFrom 118 = .ok (.iload_n 2, 1) := by decide +kernel
theorem dX4_copyFrom_119 : decode cX4_copyFrom 119 = .ok (.invokevirtual 55, 3) := by decide +kernel
theorem dX4_copyFrom_122 : decode cX4_copyFrom 122 = .ok (.astore 4, 2) := by decide +kernel
theorem dX4_copyFrom_124 : decode cX4_copyFrom 124 = .ok (.aload_n 3, 1) := by decide +kernel
theorem dX4_copyFrom_125 : decode cX4_copyFrom 125 = .ok (.ifnull 14, 3) := by decide +kernel
theorem dX4_copyFrom_128 : decode cX4_copyFrom 128 = .ok (.aload 4, 2) := by decide +kernel
theorem dX4_copyFrom_130 : decode cX4_copyFrom 130 = .ok (.ifnull 9, 3) := by decide +kernel
theorem dX4_copyFrom_133 : decode cX4_copyFrom 133 = .ok (.aload 4, 2) := by decide +kernel
theorem dX4_copyFrom_135 : decode cX4_copyFrom 135 = .ok (.aload_n 3, 1) := by decide +kernel
theorem dX4_copyFrom_136 : decode cX4_copyFrom 136 = .ok (.invokevirtual 59, 3) := by decide +kernel
theorem dX4_copyFrom_139 : decode cX4_copyFrom 139 = .ok (.iinc 2 1, 3) := by decide +kernel
theorem dX4_copyFrom_142 : decode cX4_copyFrom 142 = .ok (.goto (-39), 3) := by decide +kernel
theorem dX4_copyFrom_145 : decode cX4_copyFrom 145 = .ok (.aload_n 0, 1) := by decide +kernel
theorem dX4_copyFrom_146 : decode cX4_copyFrom 146 = .ok (.aload_n 1, 1) := by decide +kernel
theorem dX4_copyFrom_147 : decode cX4_copyFrom 147 = .ok (.getfield 63, 3) := by decide +kernel
theorem dX4_copyFrom_150 : decode cX4_copyFrom 150 = .ok (.putfield 63, 3) := by decide +kernel
theorem dX4_copyFrom_153 : decode cX4_copyFrom 153 = .ok (.aload_n 0, 1) := by decide +kernel
theorem dX4_copyFrom_154 : decode cX4_copyFrom 154 = .ok (.aload_n 1, 1) := by decide +kernel
theorem dX4_copyFrom_155 : decode cX4_copyFrom 155 = .ok (.getfield 66, 3) := by decide +kernel
theorem dX4_copyFrom_158 : decode cX4_copyFrom 158 = .ok (.putfield 66, 3) := by decide +kernel
theorem dX4_copyFrom_161 : decode cX4_copyFrom 161 = .ok (.aload_n 0, 1) := by decide +kernel
theorem dX4_copyFrom_162 : decode cX4_copyFrom 162 = .ok (.aload_n 1, 1) := by decide +kernel
theorem dX4_copyFrom_163 : decode cX4_copyFrom 163 = .ok (.getfield 69, 3) := by decide +kernel
theorem dX4_copyFrom_166 : decode cX4_copyFrom 166 = .ok (.putfield 69, 3) := by decide +kernel
theorem dX4_copyFrom_169 : decode cX4_copyFrom 169 = .ok (.return_, 1) := by decide +kernel
theorem dX4_copyEdition_0 : decode cX4_copyEdition 0 = .ok (.aload_n 0, 1) := by decide +kernel
theorem dX4_copyEdition_1 : decode cX4_copyEdition 1 = .ok (.iload_n 2, 1) := by decide +kernel
theorem dX4_copyEdition_2 : decode cX4_copyEdition 2 = .ok (.invokevirtual 47, 3) := by decide +kernel
theorem dX4_copyEdition_5 : decode cX4_copyEdition 5 = .ok (.astore_n 3, 1) := by decide +kernel
theorem dX4_copyEdition_6 : decode cX4_copyEdition 6 = .ok (.aload_n 1, 1) := by decide +kernel
theorem dX4_copyEdition_7 : decode cX4_copyEdition 7 = .ok (.ifnull 12, 3) := by decide +kernel
theorem dX4_copyEdition_10 : decode cX4_copyEdition 10 = .ok (.aload_n 3, 1) := by decide +kernel
theorem dX4_copyEdition_11 : decode cX4_copyEdition 11 = .ok (.ifnull 8, 3) := by decide +kernel
theorem dX4_copyEdition_14 : decode cX4_copyEdition 14 = .ok (.aload_n 3, 1) := by decide +kernel
theorem dX4_copyEdition_15 : decode cX4_copyEdition 15 = .ok (.aload_n 1, 1) := by decide +kernel
theorem dX4_copyEdition_16 : decode cX4_copyEdition 16 = .ok (.invokevirtual 72, 3) := by decide +kernel
theorem dX4_copyEdition_19 : decode cX4_copyEdition 19 = .ok (.return_, 1) := by decide +kernel
theorem dX4_editionAt_0 : decode cX4_editionAt 0 = .ok (.iload_n 1, 1) := by decide +kernel
theorem dX4_editionAt_1 : decode cX4_editionAt 1 = .ok (.ifCond .lt 29, 3) := by decide +kernel
theorem dX4_editionAt_4 : decode cX4_editionAt 4 = .ok (.iload_n 1, 1) := by decide +kernel
theorem dX4_editionAt_5 : decode cX4_editionAt 5 = .ok (.aload_n 0, 1) := by decide +kernel
theorem dX4_editionAt_6 : decode cX4_editionAt 6 = .ok (.getfield 40, 3) := by decide +kernel
theorem dX4_editionAt_9 : decode cX4_editionAt 9 = .ok (.if_icmp .ge 21, 3) := by decide +kernel
theorem dX4_editionAt_12 : decode cX4_editionAt 12 = .ok (.iload_n 1, 1) := by decide +kernel
theorem dX4_editionAt_13 : decode cX4_editionAt 13 = .ok (.aload_n 0, 1) := by decide +kernel
theorem dX4_editionAt_14 : decode cX4_editionAt 14 = .ok (.getfield 20, 3) := by decide +kernel
theorem dX4_editionAt_17 : decode cX4_editionAt 17 = .ok (.arraylength, 1) := by decide +kernel
theorem dX4_editionAt_18 : decode cX4_editionAt 18 = .ok (.if_icmp .ge 12, 3) := by decide +kernel
theorem dX4_editionAt_21 : decode cX4_editionAt 21 = .ok (.aload_n 0, 1) := by decide +kernel
theorem dX4_editionAt_22 : decode cX4_editionAt 22 = .ok (.getfield 20, 3) := by decide +kernel
theorem dX4_editionAt_25 : decode cX4_editionAt 25 = .ok (.iload_n 1, 1) := by decide +kernel
theorem dX4_editionAt_26 : decode cX4_editionAt 26 = .ok (.aaload, 1) := by decide +kernel
theorem dX4_editionAt_27 : decode cX4_editionAt 27 = .ok (.goto 4, 3) := by decide +kernel
theorem dX4_editionAt_30 : decode cX4_editionAt 30 = .ok (.aconst_null, 1) := by decide +kernel
theorem dX4_editionAt_31 : decode cX4_editionAt 31 = .ok (.areturn, 1) := by decide +kernel
theorem dX4_rulingAt_0 : decode cX4_rulingAt 0 = .ok (.iload_n 1, 1) := by decide +kernel
theorem dX4_rulingAt_1 : decode cX4_rulingAt 1 = .ok (.ifCond .lt 29, 3) := by decide +kernel
theorem dX4_rulingAt_4 : decode cX4_rulingAt 4 = .ok (.iload_n 1, 1) := by decide +kernel
theorem dX4_rulingAt_5 : decode cX4_rulingAt 5 = .ok (.aload_n 0, 1) := by decide +kernel
theorem dX4_rulingAt_6 : decode cX4_rulingAt 6 = .ok (.getfield 44, 3) := by decide +kernel
theorem dX4_rulingAt_9 : decode cX4_rulingAt 9 = .ok (.if_icmp .ge 21, 3) := by decide +kernel
theorem dX4_rulingAt_12 : decode cX4_rulingAt 12 = .ok (.iload_n 1, 1) := by decide +kernel
theorem dX4_rulingAt_13 : decode cX4_rulingAt 13 = .ok (.aload_n 0, 1) := by decide +kernel
theorem dX4_rulingAt_14 : decode cX4_rulingAt 14 = .ok (.getfield 26, 3) := by decide +kernel
theorem dX4_rulingAt_17 : decode cX4_rulingAt 17 = .ok (.arraylength, 1) := by decide +kernel
theorem dX4_rulingAt_18 : decode cX4_rulingAt 18 = .ok (.if_icmp .ge 12, 3) := by decide +kernel
theorem dX4_rulingAt_21 : decode cX4_rulingAt 21 = .ok (.aload_n 0, 1) := by decide +kernel
theorem dX4_rulingAt_22 : decode cX4_rulingAt 22 = .ok (.getfield 26, 3) := by decide +kernel
theorem dX4_rulingAt_25 : decode cX4_rulingAt 25 = .ok (.iload_n 1, 1) := by decide +kernel
theorem dX4_rulingAt_26 : decode cX4_rulingAt 26 = .ok (.aaload, 1) := by decide +kernel
theorem dX4_rulingAt_27 : decode cX4_rulingAt 27 = .ok (.goto 4, 3) := by decide +kernel
theorem dX4_rulingAt_30 : decode cX4_rulingAt 30 = .ok (.aconst_null, 1) := by decide +kernel
theorem dX4_rulingAt_31 : decode cX4_rulingAt 31 = .ok (.areturn, 1) := by decide +kernel
theorem dX4_addEdition_0 : decode cX4_addEdition 0 = .ok (.aload_n 0, 1) := by decide +kernel
theorem dX4_addEdition_1 : decode cX4_addEdition 1 = .ok (.dup, 1) := by decide +kernel
theorem dX4_addEdition_2 : decode cX4_addEdition 2 = .ok (.getfield 40, 3) := by decide +kernel
theorem dX4_addEdition_5 : decode cX4_addEdition 5 = .ok (.iconst 1, 1) := by decide +kernel
theorem dX4_addEdition_6 : decode cX4_addEdition 6 = .ok (.iadd, 1) := by decide +kernel
theorem dX4_addEdition_7 : decode cX4_addEdition 7 = .ok (.putfield 40, 3) := by decide +kernel
theorem dX4_addEdition_10 : decode cX4_addEdition 10 = .ok (.aload_n 0, 1) := by decide +kernel
theorem dX4_addEdition_11 : decode cX4_addEdition 11 = .ok (.aload_n 1, 1) := by decide +kernel
theorem dX4_addEdition_12 : decode cX4_addEdition 12 = .ok (.aload_n 0, 1) := by decide +kernel
theorem dX4_addEdition_13 : decode cX4_addEdition 13 = .ok (.getfield 40, 3) := by decide +kernel
theorem dX4_addEdition_16 : decode cX4_addEdition 16 = .ok (.iconst 1, 1) := by decide +kernel
theorem dX4_addEdition_17 : decode cX4_addEdition 17 = .ok (.isub, 1) := by decide +kernel
theorem dX4_addEdition_18 : decode cX4_addEdition 18 = .ok (.invokevirtual 51, 3) := by decide +kernel
theorem dX4_addEdition_21 : decode cX4_addEdition 21 = .ok (.return_, 1) := by decide +kernel
theorem dX4_removeEdition_0 : decode cX4_removeEdition 0 = .ok (.iload_n 1, 1) := by decide +kernel
theorem dX4_removeEdition_1 : decode cX4_removeEdition 1 = .ok (.iconst 1, 1) := by decide +kernel
theorem dX4_removeEdition_2 : decode cX4_removeEdition 2 = .ok (.iadd, 1) := by decide +kernel
theorem dX4_removeEdition_3 : decode cX4_removeEdition 3 = .ok (.istore_n 2, 1) := by decide +kernel
theorem dX4_removeEdition_4 : decode cX4_removeEdition 4 = .ok (.iload_n 2, 1) := by decide +kernel
theorem dX4_removeEdition_5 : decode cX4_removeEdition 5 = .ok (.aload_n 0, 1) := by decide +kernel
theorem dX4_removeEdition_6 : decode cX4_removeEdition 6 = .ok (.getfield 40, 3) := by decide +kernel
theorem dX4_removeEdition_9 : decode cX4_removeEdition 9 = .ok (.if_icmp .ge 21, 3) := by decide +kernel
theorem dX4_removeEdition_12 : decode cX4_removeEdition 12 = .ok (.aload_n 0, 1) := by decide +kernel
theorem dX4_removeEdition_13 : decode cX4_removeEdition 13 = .ok (.aload_n 0, 1) := by decide +kernel
theorem dX4_removeEdition_14 : decode cX4_removeEdition 14 = .ok (.iload_n 2, 1) := by decide +kernel
theorem dX4_removeEdition_15 : decode cX4_removeEdition 15 = .ok (.invokevirtual 47, 3) := by decide +kernel
theorem dX4_removeEdition_18 : decode cX4_removeEdition 18 = .ok (.iload_n 2, 1) := by decide +kernel
theorem dX4_removeEdition_19 : decode cX4_removeEdition 19 = .ok (.iconst 1, 1) := by decide +kernel
theorem dX4_removeEdition_20 : decode cX4_removeEdition 20 = .ok (.isub, 1) := by decide +kernel
theorem dX4_removeEdition_21 : decode cX4_removeEdition 21 = .ok (.invokevirtual 51, 3) := by decide +kernel
theorem dX4_removeEdition_24 : decode cX4_removeEdition 24 = .ok (.iinc 2 1, 3) := by decide +kernel
theorem dX4_removeEdition_27 : decode cX4_removeEdition 27 = .ok (.goto (-23), 3) := by decide +kernel
theorem dX4_removeEdition_30 : decode cX4_removeEdition 30 = .ok (.aload_n 0, 1) := by decide +kernel
theorem dX4_removeEdition_31 : decode cX4_removeEdition 31 = .ok (.dup, 1) := by decide +kernel
theorem dX4_removeEdition_32 : decode cX4_removeEdition 32 = .ok (.getfield 40, 3) := by decide +kernel
theorem dX4_removeEdition_35 : decode cX4_removeEdition 35 = .ok (.iconst 1, 1) := by decide +kernel
theorem dX4_removeEdition_36 : decode cX4_removeEdition 36 = .ok (.isub, 1) := by decide +kernel
theorem dX4_removeEdition_37 : decode cX4_removeEdition 37 = .ok (.putfield 40, 3) := by decide +kernel
theorem dX4_removeEdition_40 : decode cX4_removeEdition 40 = .ok (.return_, 1) := by decide +kernel
theorem dX4_hasEditionLike_0 : decode cX4_hasEditionLike 0 = .ok (.iconst 0, 1) := by decide +kernel
theorem dX4_hasEditionLike_1 : decode cX4_hasEditionLike 1 = .ok (.istore_n 3, 1) := by decide +kernel
theorem dX4_hasEditionLike_2 : decode cX4_hasEditionLike 2 = .ok (.iload_n 3, 1) := by decide +kernel
theorem dX4_hasEditionLike_3 : decode cX4_hasEditionLike 3 = .ok (.aload_n 0, 1) := by decide +kernel
theorem dX4_hasEditionLike_4 : decode cX4_hasEditionLike 4 = .ok (.getfield 40, 3) := by decide +kernel
theorem dX4_hasEditionLike_7 : decode cX4_hasEditionLike 7 = .ok (.if_icmp .ge 41, 3) := by decide +kernel
theorem dX4_hasEditionLike_10 : decode cX4_hasEditionLike 10 = .ok (.aload_n 0, 1) := by decide +kernel
theorem dX4_hasEditionLike_11 : decode cX4_hasEditionLike 11 = .ok (.iload_n 3, 1) := by decide +kernel
