theorem dX5_ways_28 : decode cX5_ways 28 = .ok (.aload_n 0, 1) := by decide +kernel
theorem dX5_ways_29 : decode cX5_ways 29 = .ok (.getfield 10, 3) := by decide +kernel
theorem dX5_ways_32 : decode cX5_ways 32 = .ok (.aload_n 3, 1) := by decide +kernel
theorem dX5_ways_33 : decode cX5_ways 33 = .ok (.invokevirtual 170, 3) := by decide +kernel
theorem dX5_ways_36 : decode cX5_ways 36 = .ok (.iload_n 2, 1) := by decide +kernel
theorem dX5_ways_37 : decode cX5_ways 37 = .ok (.ifCond .ne 13, 3) := by decide +kernel
theorem dX5_ways_40 : decode cX5_ways 40 = .ok (.aload_n 0, 1) := by decide +kernel
theorem dX5_ways_41 : decode cX5_ways 41 = .ok (.getfield 40, 3) := by decide +kernel
theorem dX5_ways_44 : decode cX5_ways 44 = .ok (.invokevirtual 248, 3) := by decide +kernel
theorem dX5_ways_47 : decode cX5_ways 47 = .ok (.goto 12, 3) := by decide +kernel
theorem dX5_ways_50 : decode cX5_ways 50 = .ok (.aload_n 0, 1) := by decide +kernel
theorem dX5_ways_51 : decode cX5_ways 51 = .ok (.getfield 40, 3) := by decide +kernel
theorem dX5_ways_54 : decode cX5_ways 54 = .ok (.iconst 0, 1) := by decide +kernel
theorem dX5_ways_55 : decode cX5_ways 55 = .ok (.iconst 0, 1) := by decide +kernel
theorem dX5_ways_56 : decode cX5_ways 56 = .ok (.invokestatic 251, 3) := by decide +kernel
theorem dX5_ways_59 : decode cX5_ways 59 = .ok (.ireturn, 1) := by decide +kernel
theorem dX5_count_0 : decode cX5_count 0 = .ok (.iload_n 1, 1) := by decide +kernel
theorem dX5_count_1 : decode cX5_count 1 = .ok (.tableswitch 194 0 14 #[75, 83, 91, 99, 104, 112, 120, 128, 136, 144, 152, 164, 176, 181, 189], 75) := by decide +kernel
theorem dX5_count_76 : decode cX5_count 76 = .ok (.aload_n 0, 1) := by decide +kernel
theorem dX5_count_77 : decode cX5_count 77 = .ok (.getfield 10, 3) := by decide +kernel
theorem dX5_count_80 : decode cX5_count 80 = .ok (.getfield 139, 3) := by decide +kernel
theorem dX5_count_83 : decode cX5_count 83 = .ok (.ireturn, 1) := by decide +kernel
theorem dX5_count_84 : decode cX5_count 84 = .ok (.aload_n 0, 1) := by decide +kernel
theorem dX5_count_85 : decode cX5_count 85 = .ok (.getfield 10, 3) := by decide +kernel
theorem dX5_count_88 : decode cX5_count 88 = .ok (.getfield 112, 3) := by decide +kernel
theorem dX5_count_91 : decode cX5_count 91 = .ok (.ireturn, 1) := by decide +kernel
theorem dX5_count_92 : decode cX5_count 92 = .ok (.aload_n 0, 1) := by decide +kernel
theorem dX5_count_93 : decode cX5_count 93 = .ok (.getfield 10, 3) := by decide +kernel
theorem dX5_count_96 : decode cX5_count 96 = .ok (.invokevirtual 255, 3) := by decide +kernel
theorem dX5_count_99 : decode cX5_count 99 = .ok (.ireturn, 1) := by decide +kernel
theorem dX5_count_100 : decode cX5_count 100 = .ok (.aload_n 0, 1) := by decide +kernel
theorem dX5_count_101 : decode cX5_count 101 = .ok (.invokevirtual 258, 3) := by decide +kernel
theorem dX5_count_104 : decode cX5_count 104 = .ok (.ireturn, 1) := by decide +kernel
theorem dX5_count_105 : decode cX5_count 105 = .ok (.aload_n 0, 1) := by decide +kernel
theorem dX5_count_106 : decode cX5_count 106 = .ok (.getfield 10, 3) := by decide +kernel
theorem dX5_count_109 : decode cX5_count 109 = .ok (.getfield 73, 3) := by decide +kernel
theorem dX5_count_112 : decode cX5_count 112 = .ok (.ireturn, 1) := by decide +kernel
theorem dX5_count_113 : decode cX5_count 113 = .ok (.aload_n 0, 1) := by decide +kernel
theorem dX5_count_114 : decode cX5_count 114 = .ok (.getfield 10, 3) := by decide +kernel
theorem dX5_count_117 : decode cX5_count 117 = .ok (.invokevirtual 91, 3) := by decide +kernel
theorem dX5_count_120 : decode cX5_count 120 = .ok (.ireturn, 1) := by decide +kernel
theorem dX5_count_121 : decode cX5_count 121 = .ok (.aload_n 0, 1) := by decide +kernel
theorem dX5_count_122 : decode cX5_count 122 = .ok (.getfield 10, 3) := by decide +kernel
theorem dX5_count_125 : decode cX5_count 125 = .ok (.invokevirtual 261, 3) := by decide +kernel
theorem dX5_count_128 : decode cX5_count 128 = .ok (.ireturn, 1) := by decide +kernel
theorem dX5_count_129 : decode cX5_count 129 = .ok (.aload_n 0, 1) := by decide +kernel
theorem dX5_count_130 : decode cX5_count 130 = .ok (.getfield 10, 3) := by decide +kernel
theorem dX5_count_133 : decode cX5_count 133 = .ok (.getfield 264, 3) := by decide +kernel
theorem dX5_count_136 : decode cX5_count 136 = .ok (.ireturn, 1) := by decide +kernel
theorem dX5_count_137 : decode cX5_count 137 = .ok (.aload_n 0, 1) := by decide +kernel
theorem dX5_count_138 : decode cX5_count 138 = .ok (.getfield 10, 3) := by decide +kernel
theorem dX5_count_141 : decode cX5_count 141 = .ok (.getfield 265, 3) := by decide +kernel
theorem dX5_count_144 : decode cX5_count 144 = .ok (.ireturn, 1) := by decide +kernel
theorem dX5_count_145 : decode cX5_count 145 = .ok (.aload_n 0, 1) := by decide +kernel
theorem dX5_count_146 : decode cX5_count 146 = .ok (.getfield 10, 3) := by decide +kernel
theorem dX5_count_149 : decode cX5_count 149 = .ok (.invokevirtual 268, 3) := by decide +kernel
theorem dX5_count_152 : decode cX5_count 152 = .ok (.ireturn, 1) := by decide +kernel
theorem dX5_count_153 : decode cX5_count 153 = .ok (.aload_n 0, 1) := by decide +kernel
theorem dX5_count_154 : decode cX5_count 154 = .ok (.getfield 10, 3) := by decide +kernel
theorem dX5_count_157 : decode cX5_count 157 = .ok (.getfield 67, 3) := by decide +kernel
theorem dX5_count_160 : decode cX5_count 160 = .ok (.iconst 0, 1) := by decide +kernel
theorem dX5_count_161 : decode cX5_count 161 = .ok (.invokestatic 59, 3) := by decide +kernel
theorem dX5_count_164 : decode cX5_count 164 = .ok (.ireturn, 1) := by decide +kernel
theorem dX5_count_165 : decode cX5_count 165 = .ok (.aload_n 0, 1) := by decide +kernel
theorem dX5_count_166 : decode cX5_count 166 = .ok (.getfield 10, 3) := by decide +kernel
theorem dX5_count_169 : decode cX5_count 169 = .ok (.getfield 67, 3) := by decide +kernel
theorem dX5_count_172 : decode cX5_count 172 = .ok (.iconst 1, 1) := by decide +kernel
theorem dX5_count_173 : decode cX5_count 173 = .ok (.invokestatic 59, 3) := by decide +kernel
theorem dX5_count_176 : decode cX5_count 176 = .ok (.ireturn, 1) := by decide +kernel
theorem dX5_count_177 : decode cX5_count 177 = .ok (.aload_n 0, 1) := by decide +kernel
theorem dX5_count_178 : decode cX5_count 178 = .ok (.invokevirtual 271, 3) := by decide +kernel
theorem dX5_count_181 : decode cX5_count 181 = .ok (.ireturn, 1) := by decide +kernel
theorem dX5_count_182 : decode cX5_count 182 = .ok (.aload_n 0, 1) := by decide +kernel
theorem dX5_count_183 : decode cX5_count 183 = .ok (.getfield 26, 3) := by decide +kernel
theorem dX5_count_186 : decode cX5_count 186 = .ok (.getfield 118, 3) := by decide +kernel
theorem dX5_count_189 : decode cX5_count 189 = .ok (.ireturn, 1) := by decide +kernel
theorem dX5_count_190 : decode cX5_count 190 = .ok (.aload_n 0, 1) := by decide +kernel
theorem dX5_count_191 : decode cX5_count 191 = .ok (.getfield 274, 3) := by decide +kernel
theorem dX5_count_194 : decode cX5_count 194 = .ok (.ireturn, 1) := by decide +kernel
theorem dX5_count_195 : decode cX5_count 195 = .ok (.iconst (-1), 1) := by decide +kernel
theorem dX5_count_196 : decode cX5_count 196 = .ok (.ireturn, 1) := by decide +kernel
theorem dX5_length_0 : decode cX5_length 0 = .ok (.aload_n 0, 1) := by decide +kernel
theorem dX5_length_1 : decode cX5_length 1 = .ok (.getfield 10, 3) := by decide +kernel
theorem dX5_length_4 : decode cX5_length 4 = .ok (.invokevirtual 277, 3) := by decide +kernel
theorem dX5_length_7 : decode cX5_length 7 = .ok (.istore_n 1, 1) := by decide +kernel
theorem dX5_length_8 : decode cX5_length 8 = .ok (.aload_n 0, 1) := by decide +kernel
theorem dX5_length_9 : decode cX5_length 9 = .ok (.getfield 10, 3) := by decide +kernel
theorem dX5_length_12 : decode cX5_length 12 = .ok (.invokevirtual 268, 3) := by decide +kernel
theorem dX5_length_15 : decode cX5_length 15 = .ok (.aload_n 0, 1) := by decide +kernel
theorem dX5_length_16 : decode cX5_length 16 = .ok (.getfield 10, 3) := by decide +kernel
theorem dX5_length_19 : decode cX5_length 19 = .ok (.getfield 112, 3) := by decide +kernel
theorem dX5_length_22 : decode cX5_length 22 = .ok (.iadd, 1) := by decide +kernel
theorem dX5_length_23 : decode cX5_length 23 = .ok (.istore_n 2, 1) := by decide +kernel
theorem dX5_length_24 : decode cX5_length 24 = .ok (.iload_n 2, 1) := by decide +kernel
theorem dX5_length_25 : decode cX5_length 25 = .ok (.ifCond .gt 5, 3) := by decide +kernel
theorem dX5_length_28 : decode cX5_length 28 = .ok (.dconst 0, 1) := by decide +kernel
theorem dX5_length_29 : decode cX5_length 29 = .ok (.dreturn, 1) := by decide +kernel
theorem dX5_length_30 : decode cX5_length 30 = .ok (.iload_n 1, 1) := by decide +kernel
theorem dX5_length_31 : decode cX5_length 31 = .ok (.i2d, 1) := by decide +kernel
theorem dX5_length_32 : decode cX5_length 32 = .ok (.iload_n 2, 1) := by decide +kernel
theorem dX5_length_33 : decode cX5_length 33 = .ok (.i2d, 1) := by decide +kernel
theorem dX5_length_34 : decode cX5_length 34 = .ok (.ddiv, 1) := by decide +kernel
theorem dX5_length_35 : decode cX5_length 35 = .ok (.dreturn, 1) := by decide +kernel
theorem dX5_ifRuled_0 : decode cX5_ifRuled 0 = .ok (.iload_n 1, 1) := by decide +kernel
theorem dX5_ifRuled_1 : decode cX5_ifRuled 1 = .ok (.iload_n 2, 1) := by decide +kernel
theorem dX5_ifRuled_2 : decode cX5_ifRuled 2 = .ok (.iload 4, 2) := by decide +kernel
theorem dX5_ifRuled_4 : decode cX5_ifRuled 4 = .ok (.invokestatic 70, 3) := by decide +kernel
theorem dX5_ifRuled_7 : decode cX5_ifRuled 7 = .ok (.ifCond .ne 5, 3) := by decide +kernel
theorem dX5_ifRuled_10 : decode cX5_ifRuled 10 = .ok (.iconst (-1), 1) := by decide +kernel
theorem dX5_ifRuled_11 : decode cX5_ifRuled 11 = .ok (.ireturn, 1) := by decide +kernel
theorem dX5_ifRuled_12 : decode cX5_ifRuled 12 = .ok (.iconst 0, 1) := by decide +kernel
theorem dX5_ifRuled_13 : decode cX5_ifRuled 13 = .ok (.istore 5, 2) := by decide +kernel
theorem dX5_ifRuled_15 : decode cX5_ifRuled 15 = .ok (.iconst 0, 1) := by decide +kernel
theorem dX5_ifRuled_16 : decode cX5_ifRuled 16 = .ok (.istore 6, 2) := by decide +kernel
theorem dX5_ifRuled_18 : decode cX5_ifRuled 18 = .ok (.iload 6, 2) := by decide +kernel
theorem dX5_ifRuled_20 : decode cX5_ifRuled 20 = .ok (.aload_n 0, 1) := by decide +kernel
theorem dX5_ifRuled_21 : decode cX5_ifRuled 21 = .ok (.getfield 10, 3) := by decide +kernel
theorem dX5_ifRuled_24 : decode cX5_ifRuled 24 = .ok (.getfield 112, 3) := by decide +kernel
theorem dX5_ifRuled_27 : decode cX5_ifRuled 27 = .ok (.if_icmp .ge 108, 3) := by decide +kernel
theorem dX5_ifRuled_30 : decode cX5_ifRuled 30 = .ok (.aload_n 0, 1) := by decide +kernel
theorem dX5_ifRuled_31 : decode cX5_ifRuled 31 = .ok (.getfield 10, 3) := by decide +kernel
theorem dX5_ifRuled_34 : decode cX5_ifRuled 34 = .ok (.iload 6, 2) := by decide +kernel
theorem dX5_ifRuled_36 : decode cX5_ifRuled 36 = .ok (.invokevirtual 121, 3) := by decide +kernel
theorem dX5_ifRuled_39 : decode cX5_ifRuled 39 = .ok (.astore 7, 2) := by decide +kernel
theorem dX5_ifRuled_41 : decode cX5_ifRuled 41 = .ok (.aload 7, 2) := by decide +kernel
theorem dX5_ifRuled_43 : decode cX5_ifRuled 43 = .ok (.ifnull 86, 3) := by decide +kernel
theorem dX5_ifRuled_46 : decode cX5_ifRuled 46 = .ok (.iconst 0, 1) := by decide +kernel
theorem dX5_ifRuled_47 : decode cX5_ifRuled 47 = .ok (.istore 8, 2) := by decide +kernel
theorem dX5_ifRuled_49 : decode cX5_ifRuled 49 = .ok (.iload 8, 2) := by decide +kernel
theorem dX5_ifRuled_51 : decode cX5_ifRuled 51 = .ok (.aload 7, 2) := by decide +kernel
theorem dX5_ifRuled_53 : decode cX5_ifRuled 53 = .ok (.getfield 174, 3) := by decide +kernel
theorem dX5_ifRuled_56 : decode cX5_ifRuled 56 = .ok (.iconst 1, 1) := by decide +kernel
theorem dX5_ifRuled_57 : decode cX5_ifRuled 57 = .ok (.isub, 1) := by decide +kernel
theorem dX5_ifRuled_58 : decode cX5_ifRuled 58 = .ok (.if_icmp .ge 71, 3) := by decide +kernel
theorem dX5_ifRuled_61 : decode cX5_ifRuled 61 = .ok (.aload 7, 2) := by decide +kernel
theorem dX5_ifRuled_63 : decode cX5_ifRuled 63 = .ok (.iload 8, 2) := by decide +kernel
theorem dX5_ifRuled_65 : decode cX5_ifRuled 65 = .ok (.invokevirtual 280, 3) := by decide +kernel
theorem dX5_ifRuled_68 : decode cX5_ifRuled 68 = .ok (.iload_n 1, 1) := by decide +kernel
theorem dX5_ifRuled_69 : decode cX5_ifRuled 69 = .ok (.if_icmp .ne 54, 3) := by decide +kernel
theorem dX5_ifRuled_72 : decode cX5_ifRuled 72 = .ok (.aload 7, 2) := by decide +kernel
theorem dX5_ifRuled_74 : decode cX5_ifRuled 74 = .ok (.iload 8, 2) := by decide +kernel
theorem dX5_ifRuled_76 : decode cX5_ifRuled 76 = .ok (.iconst 1, 1) := by decide +kernel
theorem dX5_ifRuled_77 : decode cX5_ifRuled 77 = .ok (.iadd, 1) := by decide +kernel
theorem dX5_ifRuled_78 : decode cX5_ifRuled 78 = .ok (.invokevirtual 280, 3) := by decide +kernel
theorem dX5_ifRuled_81 : decode cX5_ifRuled 81 = .ok (.iload_n 2, 1) := by decide +kernel
theorem dX5_ifRuled_82 : decode cX5_ifRuled 82 = .ok (.if_icmp .ne 41, 3) := by decide +kernel
theorem dX5_ifRuled_85 : decode cX5_ifRuled 85 = .ok (.aload 7, 2) := by decide +kernel
theorem dX5_ifRuled_87 : decode cX5_ifRuled 87 = .ok (.iload 8, 2) := by decide +kernel
theorem dX5_ifRuled_89 : decode cX5_ifRuled 89 = .ok (.invokevirtual 199, 3) := by decide +kernel
theorem dX5_ifRuled_92 : decode cX5_ifRuled 92 = .ok (.iload_n 3, 1) := by decide +kernel
theorem dX5_ifRuled_93 : decode cX5_ifRuled 93 = .ok (.if_icmp .ne 7, 3) := by decide +kernel
theorem dX5_ifRuled_96 : decode cX5_ifRuled 96 = .ok (.iconst 0, 1) := by decide +kernel
theorem dX5_ifRuled_97 : decode cX5_ifRuled 97 = .ok (.goto 5, 3) := by decide +kernel
theorem dX5_ifRuled_100 : decode cX5_ifRuled 100 = .ok (.iload 4, 2) := by decide +kernel
theorem dX5_ifRuled_102 : decode cX5_ifRuled 102 = .ok (.istore 9, 2) := by decide +kernel
theorem dX5_ifRuled_104 : decode cX5_ifRuled 104 = .ok (.iload 5, 2) := by decide +kernel
theorem dX5_ifRuled_106 : decode cX5_ifRuled 106 = .ok (.iload 9, 2) := by decide +kernel
theorem dX5_ifRuled_108 : decode cX5_ifRuled 108 = .ok (.aload_n 0, 1) := by decide +kernel
theorem dX5_ifRuled_109 : decode cX5_ifRuled 109 = .ok (.getfield 10, 3) := by decide +kernel
theorem dX5_ifRuled_112 : decode cX5_ifRuled 112 = .ok (.aload 7, 2) := by decide +kernel
theorem dX5_ifRuled_114 : decode cX5_ifRuled 114 = .ok (.iload 8, 2) := by decide +kernel
theorem dX5_ifRuled_116 : decode cX5_ifRuled 116 = .ok (.invokevirtual 205, 3) := by decide +kernel
theorem dX5_ifRuled_119 : decode cX5_ifRuled 119 = .ok (.isub, 1) := by decide +kernel
theorem dX5_ifRuled_120 : decode cX5_ifRuled 120 = .ok (.iadd, 1) := by decide +kernel
theorem dX5_ifRuled_121 : decode cX5_ifRuled 121 = .ok (.istore 5, 2) := by decide +kernel
theorem dX5_ifRuled_123 : decode cX5_ifRuled 123 = .ok (.iinc 8 1, 3) := by decide +kernel
theorem dX5_ifRuled_126 : decode cX5_ifRuled 126 = .ok (.goto (-77), 3) := by decide +kernel
theorem dX5_ifRuled_129 : decode cX5_ifRuled 129 = .ok (.iinc 6 1, 3) := by decide +kernel
theorem dX5_ifRuled_132 : decode cX5_ifRuled 132 = .ok (.goto (-114), 3) := by decide +kernel
theorem dX5_ifRuled_135 : decode cX5_ifRuled 135 = .ok (.sipush 1000, 3) := by decide +kernel
theorem dX5_ifRuled_138 : decode cX5_ifRuled 138 = .ok (.iload 5, 2) := by decide +kernel
theorem dX5_ifRuled_140 : decode cX5_ifRuled 140 = .ok (.iadd, 1) := by decide +kernel
theorem dX5_ifRuled_141 : decode cX5_ifRuled 141 = .ok (.ireturn, 1) := by decide +kernel
theorem dX5_bestSuit_0 : decode cX5_bestSuit 0 = .ok (.aload_n 0, 1) := by decide +kernel
theorem dX5_bestSuit_1 : decode cX5_bestSuit 1 = .ok (.getfield 10, 3) := by decide +kernel
theorem dX5_bestSuit_4 : decode cX5_bestSuit 4 = .ok (.iload_n 1, 1) := by decide +kernel
theorem dX5_bestSuit_5 : decode cX5_bestSuit 5 = .ok (.invokevirtual 121, 3) := by decide +kernel
theorem dX5_bestSuit_8 : decode cX5_bestSuit 8 = .ok (.astore_n 2, 1) := by decide +kernel
theorem dX5_bestSuit_9 : decode cX5_bestSuit 9 = .ok (.aload_n 2, 1) := by decide +kernel
theorem dX5_bestSuit_10 : decode cX5_bestSuit 10 = .ok (.ifnonnull 5, 3) := by decide +kernel
theorem dX5_bestSuit_13 : decode cX5_bestSuit 13 = .ok (.iconst (-1), 1) := by decide +kernel
theorem dX5_bestSuit_14 : decode cX5_bestSuit 14 = .ok (.ireturn, 1) := by decide +kernel
theorem dX5_bestSuit_15 : decode cX5_bestSuit 15 = .ok (.aload_n 0, 1) := by decide +kernel
theorem dX5_bestSuit_16 : decode cX5_bestSuit 16 = .ok (.getfield 40, 3) := by decide +kernel
theorem dX5_bestSuit_19 : decode cX5_bestSuit 19 = .ok (.aload_n 0, 1) := by decide +kernel
theorem dX5_bestSuit_20 : decode cX5_bestSuit 20 = .ok (.getfield 10, 3) := by decide +kernel
theorem dX5_bestSuit_23 : decode cX5_bestSuit 23 = .ok (.aload_n 2, 1) := by decide +kernel
theorem dX5_bestSuit_24 : decode cX5_bestSuit 24 = .ok (.invokevirtual 170, 3) := by decide +kernel
theorem dX5_bestSuit_27 : decode cX5_bestSuit 27 = .ok (.bipush (-4), 2) := by decide +kernel
theorem dX5_bestSuit_29 : decode cX5_bestSuit 29 = .ok (.istore_n 3, 1) := by decide +kernel
theorem dX5_bestSuit_30 : decode cX5_bestSuit 30 = .ok (.iconst 0, 1) := by decide +kernel
theorem dX5_bestSuit_31 : decode cX5_bestSuit 31 = .ok (.istore 4, 2) := by decide +kernel
theorem dX5_bestSuit_33 : decode cX5_bestSuit 33 = .ok (.iconst 0, 1) := by decide +kernel
theorem dX5_bestSuit_34 : decode cX5_bestSuit 34 = .ok (.istore 5, 2) := by decide +kernel
theorem dX5_bestSuit_36 : decode cX5_bestSuit 36 = .ok (.iload 5, 2) := by decide +kernel
theorem dX5_bestSuit_38 : decode cX5_bestSuit 38 = .ok (.aload_n 2, 1) := by decide +kernel
theorem dX5_bestSuit_39 : decode cX5_bestSuit 39 = .ok (.getfield 174, 3) := by decide +kernel
theorem dX5_bestSuit_42 : decode cX5_bestSuit 42 = .ok (.iconst 1, 1) := by decide +kernel
theorem dX5_bestSuit_43 : decode cX5_bestSuit 43 = .ok (.isub, 1) := by decide +kernel
theorem dX5_bestSuit_44 : decode cX5_bestSuit 44 = .ok (.if_icmp .ge 54, 3) := by decide +kernel
theorem dX5_bestSuit_47 : decode cX5_bestSuit 47 = .ok (.aload_n 0, 1) := by decide +kernel
theorem dX5_bestSuit_48 : decode cX5_bestSuit 48 = .ok (.getfield 40, 3) := by decide +kernel
theorem dX5_bestSuit_51 : decode cX5_bestSuit 51 = .ok (.aload_n 2, 1) := by decide +kernel
theorem dX5_bestSuit_52 : decode cX5_bestSuit 52 = .ok (.iload 5, 2) := by decide +kernel
theorem dX5_bestSuit_54 : decode cX5_bestSuit 54 = .ok (.invokevirtual 208, 3) := by decide +kernel
theorem dX5_bestSuit_57 : decode cX5_bestSuit 57 = .ok (.invokevirtual 189, 3) := by decide +kernel
theorem dX5_bestSuit_60 : decode cX5_bestSuit 60 = .ok (.istore 6, 2) := by decide +kernel
theorem dX5_bestSuit_62 : decode cX5_bestSuit 62 = .ok (.iload_n 3, 1) := by decide +kernel
theorem dX5_bestSuit_63 : decode cX5_bestSuit 63 = .ok (.bipush (-4), 2) := by decide +kernel
theorem dX5_bestSuit_65 : decode cX5_bestSuit 65 = .ok (.if_icmp .eq 10, 3) := by decide +kernel
theorem dX5_bestSuit_68 : decode cX5_bestSuit 68 = .ok (.iload 6, 2) := by decide +kernel
theorem dX5_bestSuit_70 : decode cX5_bestSuit 70 = .ok (.iload 4, 2) := by decide +kernel
theorem dX5_bestSuit_72 : decode cX5_bestSuit 72 = .ok (.if_icmp .ge 20, 3) := by decide +kernel
theorem dX5_bestSuit_75 : decode cX5_bestSuit 75 = .ok (.aload_n 0, 1) := by decide +kernel
theorem dX5_bestSuit_76 : decode cX5_bestSuit 76 = .ok (.aload_n 2, 1) := by decide +kernel
theorem dX5_bestSuit_77 : decode cX5_bestSuit 77 = .ok (.iload 5, 2) := by decide +kernel
theorem dX5_bestSuit_79 : decode cX5_bestSuit 79 = .ok (.invokevirtual 238, 3) := by decide +kernel
theorem dX5_bestSuit_82 : decode cX5_bestSuit 82 = .ok (.ifCond .ne 10, 3) := by decide +kernel
theorem dX5_bestSuit_85 : decode cX5_bestSuit 85 = .ok (.iload 5, 2) := by decide +kernel
theorem dX5_bestSuit_87 : decode cX5_bestSuit 87 = .ok (.istore_n 3, 1) := by decide +kernel
theorem dX5_bestSuit_88 : decode cX5_bestSuit 88 = .ok (.iload 6, 2) := by decide +kernel
theorem dX5_bestSuit_90 : decode cX5_bestSuit 90 = .ok (.istore 4, 2) := by decide +kernel
theorem dX5_bestSuit_92 : decode cX5_bestSuit 92 = .ok (.iinc 5 1, 3) := by decide +kernel
theorem dX5_bestSuit_95 : decode cX5_bestSuit 95 = .ok (.goto (-59), 3) := by decide +kernel
theorem dX5_bestSuit_98 : decode cX5_bestSuit 98 = .ok (.iload_n 3, 1) := by decide +kernel
theorem dX5_bestSuit_99 : decode cX5_bestSuit 99 = .ok (.ireturn, 1) := by decide +kernel
theorem dX5_undo_0 : decode cX5_undo 0 = .ok (.aload_n 0, 1) := by decide +kernel
theorem dX5_undo_1 : decode cX5_undo 1 = .ok (.aload_n 0, 1) := by decide +kernel
theorem dX5_undo_2 : decode cX5_undo 2 = .ok (.getfield 274, 3) := by decide +kernel
theorem dX5_undo_5 : decode cX5_undo 5 = .ok (.iconst 1, 1) := by decide +kernel
theorem dX5_undo_6 : decode cX5_undo 6 = .ok (.isub, 1) := by decide +kernel
theorem dX5_undo_7 : decode cX5_undo 7 = .ok (.invokevirtual 283, 3) := by decide +kernel
theorem dX5_undo_10 : decode cX5_undo 10 = .ok (.astore_n 1, 1) := by decide +kernel
theorem dX5_undo_11 : decode cX5_undo 11 = .ok (.aload_n 1, 1) := by decide +kernel
theorem dX5_undo_12 : decode cX5_undo 12 = .ok (.ifnonnull 6, 3) := by decide +kernel
theorem dX5_undo_15 : decode cX5_undo 15 = .ok (.bipush (-2), 2) := by decide +kernel
theorem dX5_undo_17 : decode cX5_undo 17 = .ok (.ireturn, 1) := by decide +kernel
theorem dX5_undo_18 : decode cX5_undo 18 = .ok (.aload_n 0, 1) := by decide +kernel
theorem dX5_undo_19 : decode cX5_undo 19 = .ok (.getfield 10, 3) := by decide +kernel
theorem dX5_undo_22 : decode cX5_undo 22 = .ok (.aload_n 1, 1) := by decide +kernel
theorem dX5_undo_23 : decode cX5_undo 23 = .ok (.invokevirtual 287, 3) := by decide +kernel
theorem dX5_undo_26 : decode cX5_undo 26 = .ok (.aload_n 0, 1) := by decide +kernel
theorem dX5_undo_27 : decode cX5_undo 27 = .ok (.dup, 1) := by decide +kernel
theorem dX5_undo_28 : decode cX5_undo 28 = .ok (.getfield 274, 3) := by decide +kernel
theorem dX5_undo_31 : decode cX5_undo 31 = .ok (.iconst 1, 1) := by decide +kernel
theorem dX5_undo_32 : decode cX5_undo 32 = .ok (.isub, 1) := by decide +kernel
theorem dX5_undo_33 : decode cX5_undo 33 = .ok (.putfield 274, 3) := by decide +kernel
theorem dX5_undo_36 : decode cX5_undo 36 = .ok (.aload_n 0, 1) := by decide +kernel
theorem dX5_undo_37 : decode cX5_undo 37 = .ok (.getfield 274, 3) := by decide +kernel
theorem dX5_undo_40 : decode cX5_undo 40 = .ok (.ireturn, 1) := by decide +kernel
theorem dX5_save_0 : decode cX5_save 0 = .ok (.aload_n 0, 1) := by decide +kernel
theorem dX5_save_1 : decode cX5_save 1 = .ok (.getfield 16, 3) := by decide +kernel
theorem dX5_save_4 : decode cX5_save 4 = .ok (.aload_n 0, 1) := by decide +kernel
theorem dX5_save_5 : decode cX5_save 5 = .ok (.getfield 10, 3) := by decide +kernel
theorem dX5_save_8 : decode cX5_save 8 = .ok (.invokevirtual 287, 3) := by decide +kernel
theorem dX5_save_11 : decode cX5_save 11 = .ok (.aload_n 0, 1) := by decide +kernel
theorem dX5_save_12 : decode cX5_save 12 = .ok (.iconst 1, 1) := by decide +kernel
theorem dX5_save_13 : decode cX5_save 13 = .ok (.putfield 291, 3) := by decide +kernel
theorem dX5_save_16 : decode cX5_save 16 = .ok (.aload_n 0, 1) := by decide +kernel
theorem dX5_save_17 : decode cX5_save 17 = .ok (.getfield 10, 3) := by decide +kernel
theorem dX5_save_20 : decode cX5_save 20 = .ok (.getfield 112, 3) := by decide +kernel
theorem dX5_save_23 : decode cX5_save 23 = .ok (.ireturn, 1) := by decide +kernel
theorem dX5_restore_0 : decode cX5_restore 0 = .ok (.aload_n 0, 1) := by decide +kernel
theorem dX5_restore_1 : decode cX5_restore 1 = .ok (.getfield 291, 3) := by decide +kernel
theorem dX5_restore_4 : decode cX5_restore 4 = .ok (.ifCond .ne 6, 3) := by decide +kernel
theorem dX5_restore_7 : decode cX5_restore 7 = .ok (.bipush (-2), 2) := by decide +kernel
theorem dX5_restore_9 : decode cX5_restore 9 = .ok (.ireturn, 1) := by decide +kernel
theorem dX5_restore_10 : decode cX5_restore 10 = .ok (.aload_n 0, 1) := by decide +kernel
theorem dX5_restore_11 : decode cX5_restore 11 = .ok (.invokevirtual 52, 3) := by decide +kernel
theorem dX5_restore_14 : decode cX5_restore 14 = .ok (.aload_n 0, 1) := by decide +kernel
theorem dX5_restore_15 : decode cX5_restore 15 = .ok (.getfield 10, 3) := by decide +kernel
theorem dX5_restore_18 : decode cX5_restore 18 = .ok (.aload_n 0, 1) := by decide +kernel
theorem dX5_restore_19 : decode cX5_restore 19 = .ok (.getfield 16, 3) := by decide +kernel
theorem dX5_restore_22 : decode cX5_restore 22 = .ok (.invokevirtual 287, 3) := by decide +kernel
theorem dX5_restore_25 : decode cX5_restore 25 = .ok (.aload_n 0, 1) := by decide +kernel
theorem dX5_restore_26 : decode cX5_restore 26 = .ok (.getfield 10, 3) := by decide +kernel
theorem dX5_restore_29 : decode cX5_restore 29 = .ok (.getfield 112, 3) := by decide +kernel
theorem dX5_restore_32 : decode cX5_restore 32 = .ok (.ireturn, 1) := by decide +kernel
theorem dX5_isWithin_0 : decode cX5_isWithin 0 = .ok (.iload_n 0, 1) := by decide +kernel
theorem dX5_isWithin_1 : decode cX5_isWithin 1 = .ok (.iload_n 1, 1) := by decide +kernel
theorem dX5_isWithin_2 : decode cX5_isWithin 2 = .ok (.if_icmp .lt 12, 3) := by decide +kernel
theorem dX5_isWithin_5 : decode cX5_isWithin 5 = .ok (.iload_n 0, 1) := by decide +kernel
theorem dX5_isWithin_6 : decode cX5_isWithin 6 = .ok (.iload_n 2, 1) := by decide +kernel
theorem dX5_isWithin_7 : decode cX5_isWithin 7 = .ok (.if_icmp .gt 7, 3) := by decide +kernel
theorem dX5_isWithin_10 : decode cX5_isWithin 10 = .ok (.iconst 1, 1) := by decide +kernel
theorem dX5_isWithin_11 : decode cX5_isWithin 11 = .ok (.goto 4, 3) := by decide +kernel
theorem dX5_isWithin_14 : decode cX5_isWithin 14 = .ok (.iconst 0, 1) := by decide +kernel
theorem dX5_isWithin_15 : decode cX5_isWithin 15 = .ok (.ireturn, 1) := by decide +kernel
theorem dX5_isKind_0 : decode cX5_isKind 0 = .ok (.iload_n 0, 1) := by decide +kernel
theorem dX5_isKind_1 : decode cX5_isKind 1 = .ok (.iconst 0, 1) := by decide +kernel
theorem dX5_isKind_2 : decode cX5_isKind 2 = .ok (.iconst 5, 1) := by decide +kernel
theorem dX5_isKind_3 : decode cX5_isKind 3 = .ok (.invokestatic 48, 3) := by decide +kernel
theorem dX5_isKind_6 : decode cX5_isKind 6 = .ok (.ireturn, 1) := by decide +kernel
theorem dX5_isAboutKinds_0 : decode cX5_isAboutKinds 0 = .ok (.iload_n 0, 1) := by decide +kernel
theorem dX5_isAboutKinds_1 : decode cX5_isAboutKinds 1 = .ok (.invokestatic 44, 3) := by decide +kernel
theorem dX5_isAboutKinds_4 : decode cX5_isAboutKinds 4 = .ok (.ifCond .eq 24, 3) := by decide +kernel
theorem dX5_isAboutKinds_7 : decode cX5_isAboutKinds 7 = .ok (.iload_n 1, 1) := by decide +kernel
theorem dX5_isAboutKinds_8 : decode cX5_isAboutKinds 8 = .ok (.invokestatic 44, 3) := by decide +kernel
theorem dX5_isAboutKinds_11 : decode cX5_isAboutKinds 11 = .ok (.ifCond .eq 17, 3) := by decide +kernel
theorem dX5_isAboutKinds_14 : decode cX5_isAboutKinds 14 = .ok (.iload_n 2, 1) := by decide +kernel
theorem dX5_isAboutKinds_15 : decode cX5_isAboutKinds 15 = .ok (.iconst 1, 1) := by decide +kernel
theorem dX5_isAboutKinds_16 : decode cX5_isAboutKinds 16 = .ok (.bipush 20, 2) := by decide +kernel
theorem dX5_isAboutKinds_18 : decode cX5_isAboutKinds 18 = .ok (.invokestatic 48, 3) := by decide +kernel
theorem dX5_isAboutKinds_21 : decode cX5_isAboutKinds 21 = .ok (.ifCond .eq 7, 3) := by decide +kernel
theorem dX5_isAboutKinds_24 : decode cX5_isAboutKinds 24 = .ok (.iconst 1, 1) := by decide +kernel
theorem dX5_isAboutKinds_25 : decode cX5_isAboutKinds 25 = .ok (.goto 4, 3) := by decide +kernel
theorem dX5_isAboutKinds_28 : decode cX5_isAboutKinds 28 = .ok (.iconst 0, 1) := by decide +kernel
theorem dX5_isAboutKinds_29 : decode cX5_isAboutKinds 29 = .ok (.ireturn, 1) := by decide +kernel
theorem dX5_at_0 : decode cX5_at 0 = .ok (.iload_n 1, 1) := by decide +kernel
theorem dX5_at_1 : decode cX5_at 1 = .ok (.ifCond .lt 15, 3) := by decide +kernel
theorem dX5_at_4 : decode cX5_at 4 = .ok (.iload_n 1, 1) := by decide +kernel
theorem dX5_at_5 : decode cX5_at 5 = .ok (.aload_n 0, 1) := by decide +kernel
theorem dX5_at_6 : decode cX5_at 6 = .ok (.arraylength, 1) := by decide +kernel
theorem dX5_at_7 : decode cX5_at 7 = .ok (.if_icmp .ge 9, 3) := by decide +kernel
theorem dX5_at_10 : decode cX5_at 10 = .ok (.aload_n 0, 1) := by decide +kernel
theorem dX5_at_11 : decode cX5_at 11 = .ok (.iload_n 1, 1) := by decide +kernel
theorem dX5_at_12 : decode cX5_at 12 = .ok (.iaload, 1) := by decide +kernel
theorem dX5_at_13 : decode cX5_at 13 = .ok (.goto 4, 3) := by decide +kernel
theorem dX5_at_16 : decode cX5_at 16 = .ok (.iconst 0, 1) := by decide +kernel
theorem dX5_at_17 : decode cX5_at 17 = .ok (.ireturn, 1) := by decide +kernel
theorem dX5_put_0 : decode cX5_put 0 = .ok (.iload_n 1, 1) := by decide +kernel
theorem dX5_put_1 : decode cX5_put 1 = .ok (.ifCond .lt 13, 3) := by decide +kernel
theorem dX5_put_4 : decode cX5_put 4 = .ok (.iload_n 1, 1) := by decide +kernel
theorem dX5_put_5 : decode cX5_put 5 = .ok (.aload_n 0, 1) := by decide +kernel
theorem dX5_put_6 : decode cX5_put 6 = .ok (.arraylength, 1) := by decide +kernel
theorem dX5_put_7 : decode cX5_put 7 = .ok (.if_icmp .ge 7, 3) := by decide +kernel
theorem dX5_put_10 : decode cX5_put 10 = .ok (.aload_n 0, 1) := by decide +kernel
theorem dX5_put_11 : decode cX5_put 11 = .ok (.iload_n 1, 1) := by decide +kernel
theorem dX5_put_12 : decode cX5_put 12 = .ok (.iload_n 2, 1) := by decide +kernel
theorem dX5_put_13 : decode cX5_put 13 = .ok (.iastore, 1) := by decide +kernel
theorem dX5_put_14 : decode cX5_put 14 = .ok (.return_, 1) := by decide +kernel
theorem dX5_stateAt_0 : decode cX5_stateAt 0 = .ok (.iload_n 1, 1) := by decide +kernel
theorem dX5_stateAt_1 : decode cX5_stateAt 1 = .ok (.ifCond .lt 29, 3) := by decide +kernel
theorem dX5_stateAt_4 : decode cX5_stateAt 4 = .ok (.iload_n 1, 1) := by decide +kernel
theorem dX5_stateAt_5 : decode cX5_stateAt 5 = .ok (.aload_n 0, 1) := by decide +kernel
theorem dX5_stateAt_6 : decode cX5_stateAt 6 = .ok (.getfield 274, 3) := by decide +kernel
theorem dX5_stateAt_9 : decode cX5_stateAt 9 = .ok (.if_icmp .ge 21, 3) := by decide +kernel
theorem dX5_stateAt_12 : decode cX5_stateAt 12 = .ok (.iload_n 1, 1) := by decide +kernel
theorem dX5_stateAt_13 : decode cX5_stateAt 13 = .ok (.aload_n 0, 1) := by decide +kernel
theorem dX5_stateAt_14 : decode cX5_stateAt 14 = .ok (.getfield 19, 3) := by decide +kernel
theorem dX5_stateAt_17 : decode cX5_stateAt 17 = .ok (.arraylength, 1) := by decide +kernel
theorem dX5_stateAt_18 : decode cX5_stateAt 18 = .ok (.if_icmp .ge 12, 3) := by decide +kernel
theorem dX5_stateAt_21 : decode cX5_stateAt 21 = .ok (.aload_n 0, 1) := by decide +kernel
theorem dX5_stateAt_22 : decode cX5_stateAt 22 = .ok (.getfield 19, 3) := by decide +kernel
theorem dX5_stateAt_25 : decode cX5_stateAt 25 = .ok (.iload_n 1, 1) := by decide +kernel
theorem dX5_stateAt_26 : decode cX5_stateAt 26 = .ok (.aaload, 1) := by decide +kernel
theorem dX5_stateAt_27 : decode cX5_stateAt 27 = .ok (.goto 4, 3) := by decide +kernel
theorem dX5_stateAt_30 : decode cX5_stateAt 30 = .ok (.aconst_null, 1) := by decide +kernel
theorem dX5_stateAt_31 : decode cX5_stateAt 31 = .ok (.areturn, 1) := by decide +kernel
theorem dX5_keepState_0 : decode cX5_keepState 0 = .ok (.aload_n 0, 1) := by decide +kernel
theorem dX5_keepState_1 : decode cX5_keepState 1 = .ok (.getfield 274, 3) := by decide +kernel
theorem dX5_keepState_4 : decode cX5_keepState 4 = .ok (.aload_n 0, 1) := by decide +kernel
theorem dX5_keepState_5 : decode cX5_keepState 5 = .ok (.getfield 19, 3) := by decide +kernel
theorem dX5_keepState_8 : decode cX5_keepState 8 = .ok (.arraylength, 1) := by decide +kernel
theorem dX5_keepState_9 : decode cX5_keepState 9 = .ok (.if_icmp .lt 7, 3) := by decide +kernel
theorem dX5_keepState_12 : decode cX5_keepState 12 = .ok (.aload_n 0, 1) := by decide +kernel
theorem dX5_keepState_13 : decode cX5_keepState 13 = .ok (.invokevirtual 294, 3) := by decide +kernel
theorem dX5_keepState_16 : decode cX5_keepState 16 = .ok (.aload_n 0, 1) := by decide +kernel
theorem dX5_keepState_17 : decode cX5_keepState 17 = .ok (.getfield 274, 3) := by decide +kernel
theorem dX5_keepState_20 : decode cX5_keepState 20 = .ok (.ifCond .lt 53, 3) := by decide +kernel
theorem dX5_keepState_23 : decode cX5_keepState 23 = .ok (.aload_n 0, 1) := by decide +kernel
theorem dX5_keepState_24 : decode cX5_keepState 24 = .ok (.getfield 274, 3) := by decide +kernel
theorem dX5_keepState_27 : decode cX5_keepState 27 = .ok (.aload_n 0, 1) := by decide +kernel
theorem dX5_keepState_28 : decode cX5_keepState 28 = .ok (.getfield 19, 3) := by decide +kernel
theorem dX5_keepState_31 : decode cX5_keepState 31 = .ok (.arraylength, 1) := by decide +kernel
theorem dX5_keepState_32 : decode cX5_keepState 32 = .ok (.if_icmp .ge 41, 3) := by decide +kernel
theorem dX5_keepState_35 : decode cX5_keepState 35 = .ok (.aload_n 0, 1) := by decide +kernel
theorem dX5_keepState_36 : decode cX5_keepState 36 = .ok (.getfield 19, 3) := by decide +kernel
theorem dX5_keepState_39 : decode cX5_keepState 39 = .ok (.aload_n 0, 1) := by decide +kernel
theorem dX5_keepState_40 : decode cX5_keepState 40 = .ok (.getfield 274, 3) := by decide +kernel
theorem dX5_keepState_43 : decode cX5_keepState 43 = .ok (.aaload, 1) := by decide +kernel
theorem dX5_keepState_44 : decode cX5_keepState 44 = .ok (.ifnull 29, 3) := by decide +kernel
theorem dX5_keepState_47 : decode cX5_keepState 47 = .ok (.aload_n 0, 1) := by decide +kernel
theorem dX5_keepState_48 : decode cX5_keepState 48 = .ok (.getfield 19, 3) := by decide +kernel
theorem dX5_keepState_51 : decode cX5_keepState 51 = .ok (.aload_n 0, 1) := by decide +kernel
theorem dX5_keepState_52 : decode cX5_keepState 52 = .ok (.getfield 274, 3) := by decide +kernel
theorem dX5_keepState_55 : decode cX5_keepState 55 = .ok (.aaload, 1) := by decide +kernel
theorem dX5_keepState_56 : decode cX5_keepState 56 = .ok (.aload_n 0, 1) := by decide +kernel
theorem dX5_keepState_57 : decode cX5_keepState 57 = .ok (.getfield 10, 3) := by decide +kernel
theorem dX5_keepState_60 : decode cX5_keepState 60 = .ok (.invokevirtual 287, 3) := by decide +kernel
theorem dX5_keepState_63 : decode cX5_keepState 63 = .ok (.aload_n 0, 1) := by decide +kernel
theorem dX5_keepState_64 : decode cX5_keepState 64 = .ok (.dup, 1) := by decide +kernel
theorem dX5_keepState_65 : decode cX5_keepState 65 = .ok (.getfield 274, 3) := by decide +kernel
theorem dX5_keepState_68 : decode cX5_keepState 68 = .ok (.iconst 1, 1) := by decide +kernel
theorem dX5_keepState_69 : decode cX5_keepState 69 = .ok (.iadd, 1) := by decide +kernel
theorem dX5_keepState_70 : decode cX5_keepState 70 = .ok (.putfield 274, 3) := by decide +kernel
theorem dX5_keepState_73 : decode cX5_keepState 73 = .ok (.return_, 1) := by decide +kernel
theorem dX5_forgetOldest_0 : decode cX5_forgetOldest 0 = .ok (.aload_n 0, 1) := by decide +kernel
theorem dX5_forgetOldest_1 : decode cX5_forgetOldest 1 = .ok (.getfield 19, 3) := by decide +kernel
theorem dX5_forgetOldest_4 : decode cX5_forgetOldest 4 = .ok (.arraylength, 1) := by decide +kernel
theorem dX5_forgetOldest_5 : decode cX5_forgetOldest 5 = .ok (.ifCond .ne 4, 3) := by decide +kernel
theorem dX5_forgetOldest_8 : decode cX5_forgetOldest 8 = .ok (.return_, 1) := by decide +kernel
theorem dX5_forgetOldest_9 : decode cX5_forgetOldest 9 = .ok (.aload_n 0, 1) := by decide +kernel
theorem dX5_forgetOldest_10 : decode cX5_forgetOldest 10 = .ok (.getfield 19, 3) := by decide +kernel
theorem dX5_forgetOldest_13 : decode cX5_forgetOldest 13 = .ok (.iconst 0, 1) := by decide +kernel
theorem dX5_forgetOldest_14 : decode cX5_forgetOldest 14 = .ok (.aaload, 1) := by decide +kernel
theorem dX5_forgetOldest_15 : decode cX5_forgetOldest 15 = .ok (.astore_n 1, 1) := by decide +kernel
theorem dX5_forgetOldest_16 : decode cX5_forgetOldest 16 = .ok (.iconst 1, 1) := by decide +kernel
theorem dX5_forgetOldest_17 : decode cX5_forgetOldest 17 = .ok (.istore_n 2, 1) := by decide +kernel
theorem dX5_forgetOldest_18 : decode cX5_forgetOldest 18 = .ok (.iload_n 2, 1) := by decide +kernel
theorem dX5_forgetOldest_19 : decode cX5_forgetOldest 19 = .ok (.aload_n 0, 1) := by decide +kernel
theorem dX5_forgetOldest_20 : decode cX5_forgetOldest 20 = .ok (.getfield 19, 3) := by decide +kernel
theorem dX5_forgetOldest_23 : decode cX5_forgetOldest 23 = .ok (.arraylength, 1) := by decide +kernel
theorem dX5_forgetOldest_24 : decode cX5_forgetOldest 24 = .ok (.if_icmp .ge 23, 3) := by decide +kernel
theorem dX5_forgetOldest_27 : decode cX5_forgetOldest 27 = .ok (.aload_n 0, 1) := by decide +kernel
theorem dX5_forgetOldest_28 : decode cX5_forgetOldest 28 = .ok (.getfield 19, 3) := by decide +kernel
theorem dX5_forgetOldest_31 : decode cX5_forgetOldest 31 = .ok (.iload_n 2, 1) := by decide +kernel
theorem dX5_forgetOldest_32 : decode cX5_forgetOldest 32 = .ok (.iconst 1, 1) := by decide +kernel
theorem dX5_forgetOldest_33 : decode cX5_forgetOldest 33 = .ok (.isub, 1) := by decide +kernel
theorem dX5_forgetOldest_34 : decode cX5_forgetOldest 34 = .ok (.aload_n 0, 1) := by decide +kernel
theorem dX5_forgetOldest_35 : decode cX5_forgetOldest 35 = .ok (.getfield 19, 3) := by decide +kernel
theorem dX5_forgetOldest_38 : decode cX5_forgetOldest 38 = .ok (.iload_n 2, 1) := by decide +kernel
theorem dX5_forgetOldest_39 : decode cX5_forgetOldest 39 = .ok (.aaload, 1) := by decide +kernel
theorem dX5_forgetOldest_40 : decode cX5_forgetOldest 40 = .ok (.aastore, 1) := by decide +kernel
theorem dX5_forgetOldest_41 : decode cX5_forgetOldest 41 = .ok (.iinc 2 1, 3) := by decide +kernel
theorem dX5_forgetOldest_44 : decode cX5_forgetOldest 44 = .ok (.goto (-26), 3) := by decide +kernel
theorem dX5_forgetOldest_47 : decode cX5_forgetOldest 47 = .ok (.aload_n 0, 1) := by decide +kernel
theorem dX5_forgetOldest_48 : decode cX5_forgetOldest 48 = .ok (.getfield 19, 3) := by decide +kernel
theorem dX5_forgetOldest_51 : decode cX5_forgetOldest 51 = .ok (.aload_n 0, 1) := by decide +kernel
theorem dX5_forgetOldest_52 : decode cX5_forgetOldest 52 = .ok (.getfield 19, 3) := by decide +kernel
theorem dX5_forgetOldest_55 : decode cX5_forgetOldest 55 = .ok (.arraylength, 1) := by decide +kernel
theorem dX5_forgetOldest_56 : decode cX5_forgetOldest 56 = .ok (.iconst 1, 1) := by decide +kernel
theorem dX5_forgetOldest_57 : decode cX5_forgetOldest 57 = .ok (.isub, 1) := by decide +kernel
theorem dX5_forgetOldest_58 : decode cX5_forgetOldest 58 = .ok (.aload_n 1, 1) := by decide +kernel
theorem dX5_forgetOldest_59 : decode cX5_forgetOldest 59 = .ok (.aastore, 1) := by decide +kernel
theorem dX5_forgetOldest_60 : decode cX5_forgetOldest 60 = .ok (.aload_n 0, 1) := by decide +kernel
theorem dX5_forgetOldest_61 : decode cX5_forgetOldest 61 = .ok (.aload_n 0, 1) := by decide +kernel
theorem dX5_forgetOldest_62 : decode cX5_forgetOldest 62 = .ok (.getfield 19, 3) := by decide +kernel
theorem dX5_forgetOldest_65 : decode cX5_forgetOldest 65 = .ok (.arraylength, 1) := by decide +kernel
theorem dX5_forgetOldest_66 : decode cX5_forgetOldest 66 = .ok (.iconst 1, 1) := by decide +kernel
theorem dX5_forgetOldest_67 : decode cX5_forgetOldest 67 = .ok (.isub, 1) := by decide +kernel
theorem dX5_forgetOldest_68 : decode cX5_forgetOldest 68 = .ok (.putfield 274, 3) := by decide +kernel
theorem dX5_forgetOldest_71 : decode cX5_forgetOldest 71 = .ok (.return_, 1) := by decide +kernel
theorem dX5_decide_0 : decode cX5_decide 0 = .ok (.aload_n 0, 1) := by decide +kernel
theorem dX5_decide_1 : decode cX5_decide 1 = .ok (.getfield 40, 3) := by decide +kernel
theorem dX5_decide_4 : decode cX5_decide 4 = .ok (.aload_n 0, 1) := by decide +kernel
theorem dX5_decide_5 : decode cX5_decide 5 = .ok (.getfield 10, 3) := by decide +kernel
theorem dX5_decide_8 : decode cX5_decide 8 = .ok (.aload_n 1, 1) := by decide +kernel
theorem dX5_decide_9 : decode cX5_decide 9 = .ok (.invokevirtual 170, 3) := by decide +kernel
theorem dX5_decide_12 : decode cX5_decide 12 = .ok (.aload_n 0, 1) := by decide +kernel
theorem dX5_decide_13 : decode cX5_decide 13 = .ok (.aload_n 1, 1) := by decide +kernel
theorem dX5_decide_14 : decode cX5_decide 14 = .ok (.iload_n 2, 1) := by decide +kernel
theorem dX5_decide_15 : decode cX5_decide 15 = .ok (.invokevirtual 238, 3) := by decide +kernel
theorem dX5_decide_18 : decode cX5_decide 18 = .ok (.istore_n 3, 1) := by decide +kernel
theorem dX5_decide_19 : decode cX5_decide 19 = .ok (.iload_n 3, 1) := by decide +kernel
theorem dX5_decide_20 : decode cX5_decide 20 = .ok (.ifCond .eq 18, 3) := by decide +kernel
theorem dX5_decide_23 : decode cX5_decide 23 = .ok (.aload_n 0, 1) := by decide +kernel
theorem dX5_decide_24 : decode cX5_decide 24 = .ok (.getfield 10, 3) := by decide +kernel
theorem dX5_decide_27 : decode cX5_decide 27 = .ok (.dup, 1) := by decide +kernel
theorem dX5_decide_28 : decode cX5_decide 28 = .ok (.getfield 265, 3) := by decide +kernel
theorem dX5_decide_31 : decode cX5_decide 31 = .ok (.iconst 1, 1) := by decide +kernel
theorem dX5_decide_32 : decode cX5_decide 32 = .ok (.iadd, 1) := by decide +kernel
theorem dX5_decide_33 : decode cX5_decide 33 = .ok (.putfield 265, 3) := by decide +kernel
theorem dX5_decide_36 : decode cX5_decide 36 = .ok (.iload_n 3, 1) := by decide +kernel
theorem dX5_decide_37 : decode cX5_decide 37 = .ok (.ireturn, 1) := by decide +kernel
theorem dX5_decide_38 : decode cX5_decide 38 = .ok (.aload_n 1, 1) := by decide +kernel
theorem dX5_decide_39 : decode cX5_decide 39 = .ok (.iload_n 2, 1) := by decide +kernel
theorem dX5_decide_40 : decode cX5_decide 40 = .ok (.invokevirtual 208, 3) := by decide +kernel
theorem dX5_decide_43 : decode cX5_decide 43 = .ok (.istore 4, 2) := by decide +kernel
theorem dX5_decide_45 : decode cX5_decide 45 = .ok (.aload_n 0, 1) := by decide +kernel
theorem dX5_decide_46 : decode cX5_decide 46 = .ok (.getfield 40, 3) := by decide +kernel
theorem dX5_decide_49 : decode cX5_decide 49 = .ok (.aload_n 1, 1) := by decide +kernel
theorem dX5_decide_50 : decode cX5_decide 50 = .ok (.getfield 105, 3) := by decide +kernel
theorem dX5_decide_53 : decode cX5_decide 53 = .ok (.invokevirtual 189, 3) := by decide +kernel
theorem dX5_decide_56 : decode cX5_decide 56 = .ok (.aload_n 0, 1) := by decide +kernel
theorem dX5_decide_57 : decode cX5_decide 57 = .ok (.getfield 40, 3) := by decide +kernel
theorem dX5_decide_60 : decode cX5_decide 60 = .ok (.iload 4, 2) := by decide +kernel
theorem dX5_decide_62 : decode cX5_decide 62 = .ok (.invokevirtual 189, 3) := by decide +kernel
theorem dX5_decide_65 : decode cX5_decide 65 = .ok (.isub, 1) := by decide +kernel
theorem dX5_decide_66 : decode cX5_decide 66 = .ok (.istore 5, 2) := by decide +kernel
theorem dX5_decide_68 : decode cX5_decide 68 = .ok (.aload_n 1, 1) := by decide +kernel
theorem dX5_decide_69 : decode cX5_decide 69 = .ok (.iload 4, 2) := by decide +kernel
theorem dX5_decide_71 : decode cX5_decide 71 = .ok (.putfield 105, 3) := by decide +kernel
theorem dX5_decide_74 : decode cX5_decide 74 = .ok (.aload_n 1, 1) := by decide +kernel
theorem dX5_decide_75 : decode cX5_decide 75 = .ok (.dup, 1) := by decide +kernel
theorem dX5_decide_76 : decode cX5_decide 76 = .ok (.getfield 196, 3) := by decide +kernel
theorem dX5_decide_79 : decode cX5_decide 79 = .ok (.iconst 1, 1) := by decide +kernel
theorem dX5_decide_80 : decode cX5_decide 80 = .ok (.iadd, 1) := by decide +kernel
theorem dX5_decide_81 : decode cX5_decide 81 = .ok (.putfield 196, 3) := by decide +kernel
theorem dX5_decide_84 : decode cX5_decide 84 = .ok (.aload_n 0, 1) := by decide +kernel
theorem dX5_decide_85 : decode cX5_decide 85 = .ok (.getfield 10, 3) := by decide +kernel
theorem dX5_decide_88 : decode cX5_decide 88 = .ok (.dup, 1) := by decide +kernel
theorem dX5_decide_89 : decode cX5_decide 89 = .ok (.getfield 264, 3) := by decide +kernel
theorem dX5_decide_92 : decode cX5_decide 92 = .ok (.iconst 1, 1) := by decide +kernel
theorem dX5_decide_93 : decode cX5_decide 93 = .ok (.iadd, 1) := by decide +kernel
theorem dX5_decide_94 : decode cX5_decide 94 = .ok (.putfield 264, 3) := by decide +kernel
theorem dX5_decide_97 : decode cX5_decide 97 = .ok (.bipush 10, 2) := by decide +kernel
theorem dX5_decide_99 : decode cX5_decide 99 = .ok (.iload 5, 2) := by decide +kernel
theorem dX5_decide_101 : decode cX5_decide 101 = .ok (.iadd, 1) := by decide +kernel
theorem dX5_decide_102 : decode cX5_decide 102 = .ok (.ireturn, 1) := by decide +kernel
theorem dX5_reasonAgainst_0 : decode cX5_reasonAgainst 0 = .ok (.aload_n 0, 1) := by decide +kernel
theorem dX5_reasonAgainst_1 : decode cX5_reasonAgainst 1 = .ok (.getfield 10, 3) := by decide +kernel
theorem dX5_reasonAgainst_4 : decode cX5_reasonAgainst 4 = .ok (.aload_n 1, 1) := by decide +kernel
theorem dX5_reasonAgainst_5 : decode cX5_reasonAgainst 5 = .ok (.invokevirtual 192, 3) := by decide +kernel
theorem dX5_reasonAgainst_8 : decode cX5_reasonAgainst 8 = .ok (.ifCond .eq 5, 3) := by decide +kernel
theorem dX5_reasonAgainst_11 : decode cX5_reasonAgainst 11 = .ok (.iconst 1, 1) := by decide +kernel
theorem dX5_reasonAgainst_12 : decode cX5_reasonAgainst 12 = .ok (.ireturn, 1) := by decide +kernel
theorem dX5_reasonAgainst_13 : decode cX5_reasonAgainst 13 = .ok (.aload_n 1, 1) := by decide +kernel
theorem dX5_reasonAgainst_14 : decode cX5_reasonAgainst 14 = .ok (.iload_n 2, 1) := by decide +kernel
theorem dX5_reasonAgainst_15 : decode cX5_reasonAgainst 15 = .ok (.invokevirtual 208, 3) := by decide +kernel
theorem dX5_reasonAgainst_18 : decode cX5_reasonAgainst 18 = .ok (.istore_n 3, 1) := by decide +kernel
theorem dX5_reasonAgainst_19 : decode cX5_reasonAgainst 19 = .ok (.aload_n 0, 1) := by decide +kernel
theorem dX5_reasonAgainst_20 : decode cX5_reasonAgainst 20 = .ok (.getfield 40, 3) := by decide +kernel
theorem dX5_reasonAgainst_23 : decode cX5_reasonAgainst 23 = .ok (.iload_n 3, 1) := by decide +kernel
theorem dX5_reasonAgainst_24 : decode cX5_reasonAgainst 24 = .ok (.invokevirtual 189, 3) := by decide +kernel
theorem dX5_reasonAgainst_27 : decode cX5_reasonAgainst 27 = .ok (.aload_n 0, 1) := by decide +kernel
theorem dX5_reasonAgainst_28 : decode cX5_reasonAgainst 28 = .ok (.getfield 40, 3) := by decide +kernel
theorem dX5_reasonAgainst_31 : decode cX5_reasonAgainst 31 = .ok (.aload_n 1, 1) := by decide +kernel
theorem dX5_reasonAgainst_32 : decode cX5_reasonAgainst 32 = .ok (.getfield 105, 3) := by decide +kernel
theorem dX5_reasonAgainst_35 : decode cX5_reasonAgainst 35 = .ok (.invokevirtual 189, 3) := by decide +kernel
theorem dX5_reasonAgainst_38 : decode cX5_reasonAgainst 38 = .ok (.if_icmp .lt 5, 3) := by decide +kernel
theorem dX5_reasonAgainst_41 : decode cX5_reasonAgainst 41 = .ok (.iconst 2, 1) := by decide +kernel
theorem dX5_reasonAgainst_42 : decode cX5_reasonAgainst 42 = .ok (.ireturn, 1) := by decide +kernel
theorem dX5_reasonAgainst_43 : decode cX5_reasonAgainst 43 = .ok (.aload_n 0, 1) := by decide +kernel
theorem dX5_reasonAgainst_44 : decode cX5_reasonAgainst 44 = .ok (.getfield 10, 3) := by decide +kernel
theorem dX5_reasonAgainst_47 : decode cX5_reasonAgainst 47 = .ok (.aload_n 1, 1) := by decide +kernel
theorem dX5_reasonAgainst_48 : decode cX5_reasonAgainst 48 = .ok (.iload_n 3, 1) := by decide +kernel
theorem dX5_reasonAgainst_49 : decode cX5_reasonAgainst 49 = .ok (.invokevirtual 108, 3) := by decide +kernel
theorem dX5_reasonAgainst_52 : decode cX5_reasonAgainst 52 = .ok (.ifCond .eq 7, 3) := by decide +kernel
theorem dX5_reasonAgainst_55 : decode cX5_reasonAgainst 55 = .ok (.iconst 3, 1) := by decide +kernel
theorem dX5_reasonAgainst_56 : decode cX5_reasonAgainst 56 = .ok (.goto 4, 3) := by decide +kernel
theorem dX5_reasonAgainst_59 : decode cX5_reasonAgainst 59 = .ok (.iconst 0, 1) := by decide +kernel
theorem dX5_reasonAgainst_60 : decode cX5_reasonAgainst 60 = .ok (.ireturn, 1) := by decide +kernel
theorem dX5_reasonOfPart_0 : decode cX5_reasonOfPart 0 = .ok (.aload_n 0, 1) := by decide +kernel
theorem dX5_reasonOfPart_1 : decode cX5_reasonOfPart 1 = .ok (.getfield 26, 3) := by decide +kernel
theorem dX5_reasonOfPart_4 : decode cX5_reasonOfPart 4 = .ok (.iload_n 1, 1) := by decide +kernel
theorem dX5_reasonOfPart_5 : decode cX5_reasonOfPart 5 = .ok (.invokevirtual 297, 3) := by decide +kernel
theorem dX5_reasonOfPart_8 : decode cX5_reasonOfPart 8 = .ok (.bipush 43, 2) := by decide +kernel
theorem dX5_reasonOfPart_10 : decode cX5_reasonOfPart 10 = .ok (.if_icmp .ne 18, 3) := by decide +kernel
theorem dX5_reasonOfPart_13 : decode cX5_reasonOfPart 13 = .ok (.aload_n 0, 1) := by decide +kernel
theorem dX5_reasonOfPart_14 : decode cX5_reasonOfPart 14 = .ok (.getfield 10, 3) := by decide +kernel
theorem dX5_reasonOfPart_17 : decode cX5_reasonOfPart 17 = .ok (.dup, 1) := by decide +kernel
theorem dX5_reasonOfPart_18 : decode cX5_reasonOfPart 18 = .ok (.getfield 139, 3) := by decide +kernel
theorem dX5_reasonOfPart_21 : decode cX5_reasonOfPart 21 = .ok (.iconst 1, 1) := by decide +kernel
theorem dX5_reasonOfPart_22 : decode cX5_reasonOfPart 22 = .ok (.iadd, 1) := by decide +kernel
theorem dX5_reasonOfPart_23 : decode cX5_reasonOfPart 23 = .ok (.putfield 139, 3) := by decide +kernel
theorem dX5_reasonOfPart_26 : decode cX5_reasonOfPart 26 = .ok (.iconst 0, 1) := by decide +kernel
theorem dX5_reasonOfPart_27 : decode cX5_reasonOfPart 27 = .ok (.ireturn, 1) := by decide +kernel
theorem dX5_reasonOfPart_28 : decode cX5_reasonOfPart 28 = .ok (.aload_n 0, 1) := by decide +kernel
theorem dX5_reasonOfPart_29 : decode cX5_reasonOfPart 29 = .ok (.getfield 10, 3) := by decide +kernel
theorem dX5_reasonOfPart_32 : decode cX5_reasonOfPart 32 = .ok (.aload_n 0, 1) := by decide +kernel
theorem dX5_reasonOfPart_33 : decode cX5_reasonOfPart 33 = .ok (.getfield 26, 3) := by decide +kernel
theorem dX5_reasonOfPart_36 : decode cX5_reasonOfPart 36 = .ok (.iload_n 1, 1) := by decide +kernel
theorem dX5_reasonOfPart_37 : decode cX5_reasonOfPart 37 = .ok (.invokevirtual 297, 3) := by decide +kernel
theorem dX5_reasonOfPart_40 : decode cX5_reasonOfPart 40 = .ok (.bipush 48, 2) := by decide +kernel
theorem dX5_reasonOfPart_42 : decode cX5_reasonOfPart 42 = .ok (.isub, 1) := by decide +kernel
theorem dX5_reasonOfPart_43 : decode cX5_reasonOfPart 43 = .ok (.invokevirtual 121, 3) := by decide +kernel
theorem dX5_reasonOfPart_46 : decode cX5_reasonOfPart 46 = .ok (.astore_n 2, 1) := by decide +kernel
theorem dX5_reasonOfPart_47 : decode cX5_reasonOfPart 47 = .ok (.aload_n 0, 1) := by decide +kernel
theorem dX5_reasonOfPart_48 : decode cX5_reasonOfPart 48 = .ok (.getfield 26, 3) := by decide +kernel
theorem dX5_reasonOfPart_51 : decode cX5_reasonOfPart 51 = .ok (.iload_n 1, 1) := by decide +kernel
theorem dX5_reasonOfPart_52 : decode cX5_reasonOfPart 52 = .ok (.iconst 2, 1) := by decide +kernel
theorem dX5_reasonOfPart_53 : decode cX5_reasonOfPart 53 = .ok (.iadd, 1) := by decide +kernel
theorem dX5_reasonOfPart_54 : decode cX5_reasonOfPart 54 = .ok (.invokevirtual 300, 3) := by decide +kernel
theorem dX5_reasonOfPart_57 : decode cX5_reasonOfPart 57 = .ok (.istore_n 3, 1) := by decide +kernel
theorem dX5_reasonOfPart_58 : decode cX5_reasonOfPart 58 = .ok (.aload_n 2, 1) := by decide +kernel
theorem dX5_reasonOfPart_59 : decode cX5_reasonOfPart 59 = .ok (.ifnull 11, 3) := by decide +kernel
theorem dX5_reasonOfPart_62 : decode cX5_reasonOfPart 62 = .ok (.aload_n 2, 1) := by decide +kernel
theorem dX5_reasonOfPart_63 : decode cX5_reasonOfPart 63 = .ok (.iload_n 3, 1) := by decide +kernel
theorem dX5_reasonOfPart_64 : decode cX5_reasonOfPart 64 = .ok (.invokevirtual 129, 3) := by decide +kernel
theorem dX5_reasonOfPart_67 : decode cX5_reasonOfPart 67 = .ok (.ifCond .ne 5, 3) := by decide +kernel
theorem dX5_reasonOfPart_70 : decode cX5_reasonOfPart 70 = .ok (.iconst (-1), 1) := by decide +kernel
theorem dX5_reasonOfPart_71 : decode cX5_reasonOfPart 71 = .ok (.ireturn, 1) := by decide +kernel
theorem dX5_reasonOfPart_72 : decode cX5_reasonOfPart 72 = .ok (.aload_n 0, 1) := by decide +kernel
theorem dX5_reasonOfPart_73 : decode cX5_reasonOfPart 73 = .ok (.aload_n 2, 1) := by decide +kernel
theorem dX5_reasonOfPart_74 : decode cX5_reasonOfPart 74 = .ok (.iload_n 3, 1) := by decide +kernel
theorem dX5_reasonOfPart_75 : decode cX5_reasonOfPart 75 = .ok (.invokevirtual 132, 3) := by decide +kernel
theorem dX5_reasonOfPart_78 : decode cX5_reasonOfPart 78 = .ok (.istore 4, 2) := by decide +kernel
theorem dX5_reasonOfPart_80 : decode cX5_reasonOfPart 80 = .ok (.iload 4, 2) := by decide +kernel
theorem dX5_reasonOfPart_82 : decode cX5_reasonOfPart 82 = .ok (.bipush 10, 2) := by decide +kernel
theorem dX5_reasonOfPart_84 : decode cX5_reasonOfPart 84 = .ok (.if_icmp .le 7, 3) := by decide +kernel
theorem dX5_reasonOfPart_87 : decode cX5_reasonOfPart 87 = .ok (.iconst 0, 1) := by decide +kernel
theorem dX5_reasonOfPart_88 : decode cX5_reasonOfPart 88 = .ok (.goto 5, 3) := by decide +kernel
theorem dX5_reasonOfPart_91 : decode cX5_reasonOfPart 91 = .ok (.iload 4, 2) := by decide +kernel
theorem dX5_reasonOfPart_93 : decode cX5_reasonOfPart 93 = .ok (.ireturn, 1) := by decide +kernel
theorem dX5_costOfEdition_0 : decode cX5_costOfEdition 0 = .ok (.aload_n 0, 1) := by decide +kernel
theorem dX5_costOfEdition_1 : decode cX5_costOfEdition 1 = .ok (.getfield 10, 3) := by decide +kernel
theorem dX5_costOfEdition_4 : decode cX5_costOfEdition 4 = .ok (.iload_n 1, 1) := by decide +kernel
theorem dX5_costOfEdition_5 : decode cX5_costOfEdition 5 = .ok (.invokevirtual 121, 3) := by decide +kernel
theorem dX5_costOfEdition_8 : decode cX5_costOfEdition 8 = .ok (.astore_n 2, 1) := by decide +kernel
theorem dX5_costOfEdition_9 : decode cX5_costOfEdition 9 = .ok (.aload_n 2, 1) := by decide +kernel
theorem dX5_costOfEdition_10 : decode cX5_costOfEdition 10 = .ok (.ifnonnull 5, 3) := by decide +kernel
theorem dX5_costOfEdition_13 : decode cX5_costOfEdition 13 = .ok (.iconst 0, 1) := by decide +kernel
theorem dX5_costOfEdition_14 : decode cX5_costOfEdition 14 = .ok (.ireturn, 1) := by decide +kernel
theorem dX5_costOfEdition_15 : decode cX5_costOfEdition 15 = .ok (.aload_n 0, 1) := by decide +kernel
theorem dX5_costOfEdition_16 : decode cX5_costOfEdition 16 = .ok (.getfield 40, 3) := by decide +kernel
theorem dX5_costOfEdition_19 : decode cX5_costOfEdition 19 = .ok (.aload_n 0, 1) := by decide +kernel
theorem dX5_costOfEdition_20 : decode cX5_costOfEdition 20 = .ok (.getfield 10, 3) := by decide +kernel
theorem dX5_costOfEdition_23 : decode cX5_costOfEdition 23 = .ok (.aload_n 2, 1) := by decide +kernel
theorem dX5_costOfEdition_24 : decode cX5_costOfEdition 24 = .ok (.invokevirtual 170, 3) := by decide +kernel
theorem dX5_costOfEdition_27 : decode cX5_costOfEdition 27 = .ok (.aload_n 0, 1) := by decide +kernel
theorem dX5_costOfEdition_28 : decode cX5_costOfEdition 28 = .ok (.getfield 40, 3) := by decide +kernel
theorem dX5_costOfEdition_31 : decode cX5_costOfEdition 31 = .ok (.aload_n 2, 1) := by decide +kernel
theorem dX5_costOfEdition_32 : decode cX5_costOfEdition 32 = .ok (.getfield 105, 3) := by decide +kernel
theorem dX5_costOfEdition_35 : decode cX5_costOfEdition 35 = .ok (.invokevirtual 189, 3) := by decide +kernel
theorem dX5_costOfEdition_38 : decode cX5_costOfEdition 38 = .ok (.ireturn, 1) := by decide +kernel
theorem dX5_costOfAll_0 : decode cX5_costOfAll 0 = .ok (.iconst 0, 1) := by decide +kernel
theorem dX5_costOfAll_1 : decode cX5_costOfAll 1 = .ok (.istore_n 1, 1) := by decide +kernel
theorem dX5_costOfAll_2 : decode cX5_costOfAll 2 = .ok (.iconst 0, 1) := by decide +kernel
theorem dX5_costOfAll_3 : decode cX5_costOfAll 3 = .ok (.istore_n 2, 1) := by decide +kernel
theorem dX5_costOfAll_4 : decode cX5_costOfAll 4 = .ok (.iload_n 2, 1) := by decide +kernel
theorem dX5_costOfAll_5 : decode cX5_costOfAll 5 = .ok (.aload_n 0, 1) := by decide +kernel
theorem dX5_costOfAll_6 : decode cX5_costOfAll 6 = .ok (.getfield 10, 3) := by decide +kernel
theorem dX5_costOfAll_9 : decode cX5_costOfAll 9 = .ok (.getfield 112, 3) := by decide +kernel
theorem dX5_costOfAll_12 : decode cX5_costOfAll 12 = .ok (.if_icmp .ge 17, 3) := by decide +kernel
theorem dX5_costOfAll_15 : decode cX5_costOfAll 15 = .ok (.iload_n 1, 1) := by decide +kernel
theorem dX5_costOfAll_16 : decode cX5_costOfAll 16 = .ok (.aload_n 0, 1) := by decide +kernel
theorem dX5_costOfAll_17 : decode cX5_costOfAll 17 = .ok (.iload_n 2, 1) := by decide +kernel
theorem dX5_costOfAll_18 : decode cX5_costOfAll 18 = .ok (.invokevirtual 303, 3) := by decide +kernel
theorem dX5_costOfAll_21 : decode cX5_costOfAll 21 = .ok (.iadd, 1) := by decide +kernel
theorem dX5_costOfAll_22 : decode cX5_costOfAll 22 = .ok (.istore_n 1, 1) := by decide +kernel
theorem dX5_costOfAll_23 : decode cX5_costOfAll 23 = .ok (.iinc 2 1, 3) := by decide +kernel
theorem dX5_costOfAll_26 : decode cX5_costOfAll 26 = .ok (.goto (-22), 3) := by decide +kernel
theorem dX5_costOfAll_29 : decode cX5_costOfAll 29 = .ok (.iload_n 1, 1) := by decide +kernel
theorem dX5_costOfAll_30 : decode cX5_costOfAll 30 = .ok (.ireturn, 1) := by decide +kernel
theorem dX5_cheapestEdition_0 : decode cX5_cheapestEdition 0 = .ok (.bipush (-4), 2) := by decide +kernel
theorem dX5_cheapestEdition_2 : decode cX5_cheapestEdition 2 = .ok (.istore_n 1, 1) := by decide +kernel
theorem dX5_cheapestEdition_3 : decode cX5_cheapestEdition 3 = .ok (.iconst 0, 1) := by decide +kernel
theorem dX5_cheapestEdition_4 : decode cX5_cheapestEdition 4 = .ok (.istore_n 2, 1) := by decide +kernel
theorem dX5_cheapestEdition_5 : decode cX5_cheapestEdition 5 = .ok (.iconst 0, 1) := by decide +kernel
theorem dX5_cheapestEdition_6 : decode cX5_cheapestEdition 6 = .ok (.istore_n 3, 1) := by decide +kernel
theorem dX5_cheapestEdition_7 : decode cX5_cheapestEdition 7 = .ok (.iload_n 3, 1) := by decide +kernel
theorem dX5_cheapestEdition_8 : decode cX5_cheapestEdition 8 = .ok (.aload_n 0, 1) := by decide +kernel
theorem dX5_cheapestEdition_9 : decode cX5_cheapestEdition 9 = .ok (.getfield 10, 3) := by decide +kernel
theorem dX5_cheapestEdition_12 : decode cX5_cheapestEdition 12 = .ok (.getfield 112, 3) := by decide +kernel
theorem dX5_cheapestEdition_15 : decode cX5_cheapestEdition 15 = .ok (.if_icmp .ge 33, 3) := by decide +kernel
theorem dX5_cheapestEdition_18 : decode cX5_cheapestEdition 18 = .ok (.aload_n 0, 1) := by decide +kernel
theorem dX5_cheapestEdition_19 : decode cX5_cheapestEdition 19 = .ok (.iload_n 3, 1) := by decide +kernel
theorem dX5_cheapestEdition_20 : decode cX5_cheapestEdition 20 = .ok (.invokevirtual 303, 3) := by decide +kernel
theorem dX5_cheapestEdition_23 : decode cX5_cheapestEdition 23 = .ok (.istore 4, 2) := by decide +kernel
theorem dX5_cheapestEdition_25 : decode cX5_cheapestEdition 25 = .ok (.iload_n 1, 1) := by decide +kernel
theorem dX5_cheapestEdition_26 : decode cX5_cheapestEdition 26 = .ok (.bipush (-4), 2) := by decide +kernel
theorem dX5_cheapestEdition_28 : decode cX5_cheapestEdition 28 = .ok (.if_icmp .eq 9, 3) := by decide +kernel
theorem dX5_cheapestEdition_31 : decode cX5_cheapestEdition 31 = .ok (.iload 4, 2) := by decide +kernel
theorem dX5_cheapestEdition_33 : decode cX5_cheapestEdition 33 = .ok (.iload_n 2, 1) := by decide +kernel
theorem dX5_cheapestEdition_34 : decode cX5_cheapestEdition 34 = .ok (.if_icmp .ge 8, 3) := by decide +kernel
theorem dX5_cheapestEdition_37 : decode cX5_cheapestEdition 37 = .ok (.iload_n 3, 1) := by decide +kernel
theorem dX5_cheapestEdition_38 : decode cX5_cheapestEdition 38 = .ok (.istore_n 1, 1) := by decide +kernel
theorem dX5_cheapestEdition_39 : decode cX5_cheapestEdition 39 = .ok (.iload 4, 2) := by decide +kernel
theorem dX5_cheapestEdition_41 : decode cX5_cheapestEdition 41 = .ok (.istore_n 2, 1) := by decide +kernel
theorem dX5_cheapestEdition_42 : decode cX5_cheapestEdition 42 = .ok (.iinc 3 1, 3) := by decide +kernel
theorem dX5_cheapestEdition_45 : decode cX5_cheapestEdition 45 = .ok (.goto (-38), 3) := by decide +kernel
theorem dX5_cheapestEdition_48 : decode cX5_cheapestEdition 48 = .ok (.iload_n 1, 1) := by decide +kernel
theorem dX5_cheapestEdition_49 : decode cX5_cheapestEdition 49 = .ok (.ireturn, 1) := by decide +kernel
theorem dX5_splittingsFrom_0 : decode cX5_splittingsFrom 0 = .ok (.iload_n 1, 1) := by decide +kernel
theorem dX5_splittingsFrom_1 : decode cX5_splittingsFrom 1 = .ok (.aload_n 0, 1) := by decide +kernel
theorem dX5_splittingsFrom_2 : decode cX5_splittingsFrom 2 = .ok (.getfield 306, 3) := by decide +kernel
theorem dX5_splittingsFrom_5 : decode cX5_splittingsFrom 5 = .ok (.if_icmp .lt 5, 3) := by decide +kernel
theorem dX5_splittingsFrom_8 : decode cX5_splittingsFrom 8 = .ok (.iconst 1, 1) := by decide +kernel
theorem dX5_splittingsFrom_9 : decode cX5_splittingsFrom 9 = .ok (.ireturn, 1) := by decide +kernel
theorem dX5_splittingsFrom_10 : decode cX5_splittingsFrom 10 = .ok (.iload_n 2, 1) := by decide +kernel
theorem dX5_splittingsFrom_11 : decode cX5_splittingsFrom 11 = .ok (.bipush 12, 2) := by decide +kernel
theorem dX5_splittingsFrom_13 : decode cX5_splittingsFrom 13 = .ok (.if_icmp .lt 5, 3) := by decide +kernel
theorem dX5_splittingsFrom_16 : decode cX5_splittingsFrom 16 = .ok (.iconst 0, 1) := by decide +kernel
theorem dX5_splittingsFrom_17 : decode cX5_splittingsFrom 17 = .ok (.ireturn, 1) := by decide +kernel
theorem dX5_splittingsFrom_18 : decode cX5_splittingsFrom 18 = .ok (.iconst 0, 1) := by decide +kernel
theorem dX5_splittingsFrom_19 : decode cX5_splittingsFrom 19 = .ok (.istore_n 3, 1) := by decide +kernel
theorem dX5_splittingsFrom_20 : decode cX5_splittingsFrom 20 = .ok (.iconst 0, 1) := by decide +kernel
theorem dX5_splittingsFrom_21 : decode cX5_splittingsFrom 21 = .ok (.istore 4, 2) := by decide +kernel
theorem dX5_splittingsFrom_23 : decode cX5_splittingsFrom 23 = .ok (.iload_n 1, 1) := by decide +kernel
theorem dX5_splittingsFrom_24 : decode cX5_splittingsFrom 24 = .ok (.istore 5, 2) := by decide +kernel
theorem dX5_splittingsFrom_26 : decode cX5_splittingsFrom 26 = .ok (.iload 5, 2) := by decide +kernel
theorem dX5_splittingsFrom_28 : decode cX5_splittingsFrom 28 = .ok (.aload_n 0, 1) := by decide +kernel
theorem dX5_splittingsFrom_29 : decode cX5_splittingsFrom 29 = .ok (.getfield 306, 3) := by decide +kernel
theorem dX5_splittingsFrom_32 : decode cX5_splittingsFrom 32 = .ok (.if_icmp .ge 46, 3) := by decide +kernel
theorem dX5_splittingsFrom_35 : decode cX5_splittingsFrom 35 = .ok (.iload 4, 2) := by decide +kernel
theorem dX5_splittingsFrom_37 : decode cX5_splittingsFrom 37 = .ok (.aload_n 0, 1) := by decide +kernel
theorem dX5_splittingsFrom_38 : decode cX5_splittingsFrom 38 = .ok (.getfield 307, 3) := by decide +kernel
theorem dX5_splittingsFrom_41 : decode cX5_splittingsFrom 41 = .ok (.iload 5, 2) := by decide +kernel
theorem dX5_splittingsFrom_43 : decode cX5_splittingsFrom 43 = .ok (.invokestatic 59, 3) := by decide +kernel
theorem dX5_splittingsFrom_46 : decode cX5_splittingsFrom 46 = .ok (.iadd, 1) := by decide +kernel
theorem dX5_splittingsFrom_47 : decode cX5_splittingsFrom 47 = .ok (.istore 4, 2) := by decide +kernel
theorem dX5_splittingsFrom_49 : decode cX5_splittingsFrom 49 = .ok (.iload 4, 2) := by decide +kernel
theorem dX5_splittingsFrom_51 : decode cX5_splittingsFrom 51 = .ok (.aload_n 0, 1) := by decide +kernel
theorem dX5_splittingsFrom_52 : decode cX5_splittingsFrom 52 = .ok (.getfield 308, 3) := by decide +kernel
theorem dX5_splittingsFrom_55 : decode cX5_splittingsFrom 55 = .ok (.if_icmp .gt 17, 3) := by decide +kernel
theorem dX5_splittingsFrom_58 : decode cX5_splittingsFrom 58 = .ok (.iload_n 3, 1) := by decide +kernel
theorem dX5_splittingsFrom_59 : decode cX5_splittingsFrom 59 = .ok (.aload_n 0, 1) := by decide +kernel
theorem dX5_splittingsFrom_60 : decode cX5_splittingsFrom 60 = .ok (.iload 5, 2) := by decide +kernel
theorem dX5_splittingsFrom_62 : decode cX5_splittingsFrom 62 = .ok (.iconst 1, 1) := by decide +kernel
theorem dX5_splittingsFrom_63 : decode cX5_splittingsFrom 63 = .ok (.iadd, 1) := by decide +kernel
theorem dX5_splittingsFrom_64 : decode cX5_splittingsFrom 64 = .ok (.iload_n 2, 1) := by decide +kernel
theorem dX5_splittingsFrom_65 : decode cX5_splittingsFrom 65 = .ok (.iconst 1, 1) := by decide +kernel
theorem dX5_splittingsFrom_66 : decode cX5_splittingsFrom 66 = .ok (.iadd, 1) := by decide +kernel
theorem dX5_splittingsFrom_67 : decode cX5_splittingsFrom 67 = .ok (.invokestatic 251, 3) := by decide +kernel
theorem dX5_splittingsFrom_70 : decode cX5_splittingsFrom 70 = .ok (.iadd, 1) := by decide +kernel
theorem dX5_splittingsFrom_71 : decode cX5_splittingsFrom 71 = .ok (.istore_n 3, 1) := by decide +kernel
theorem dX5_splittingsFrom_72 : decode cX5_splittingsFrom 72 = .ok (.iinc 5 1, 3) := by decide +kernel
theorem dX5_splittingsFrom_75 : decode cX5_splittingsFrom 75 = .ok (.goto (-49), 3) := by decide +kernel
theorem dX5_splittingsFrom_78 : decode cX5_splittingsFrom 78 = .ok (.iload_n 3, 1) := by decide +kernel
theorem dX5_splittingsFrom_79 : decode cX5_splittingsFrom 79 = .ok (.ireturn, 1) := by decide +kernel
theorem dJ6_bitCount_0f7a4_0 : decode cJ6_bitCount_0f7a4 0 = .ok (.iload_n 0, 1) := by decide +kernel
theorem dJ6_bitCount_0f7a4_1 : decode cJ6_bitCount_0f7a4 1 = .ok (.iload_n 0, 1) := by decide +kernel
theorem dJ6_bitCount_0f7a4_2 : decode cJ6_bitCount_0f7a4 2 = .ok (.iconst 1, 1) := by decide +kernel
theorem dJ6_bitCount_0f7a4_3 : decode cJ6_bitCount_0f7a4 3 = .ok (.iushr, 1) := by decide +kernel
theorem dJ6_bitCount_0f7a4_4 : decode cJ6_bitCount_0f7a4 4 = .ok (.ldc_w 265, 3) := by decide +kernel
theorem dJ6_bitCount_0f7a4_7 : decode cJ6_bitCount_0f7a4 7 = .ok (.iand, 1) := by decide +kernel
theorem dJ6_bitCount_0f7a4_8 : decode cJ6_bitCount_0f7a4 8 = .ok (.isub, 1) := by decide +kernel
theorem dJ6_bitCount_0f7a4_9 : decode cJ6_bitCount_0f7a4 9 = .ok (.istore_n 0, 1) := by decide +kernel
theorem dJ6_bitCount_0f7a4_10 : decode cJ6_bitCount_0f7a4 10 = .ok (.iload_n 0, 1) := by decide +kernel
theorem dJ6_bitCount_0f7a4_11 : decode cJ6_bitCount_0f7a4 11 = .ok (.ldc_w 266, 3) := by decide +kernel
theorem dJ6_bitCount_0f7a4_14 : decode cJ6_bitCount_0f7a4 14 = .ok (.iand, 1) := by decide +kernel
theorem dJ6_bitCount_0f7a4_15 : decode cJ6_bitCount_0f7a4 15 = .ok (.iload_n 0, 1) := by decide +kernel
theorem dJ6_bitCount_0f7a4_16 : decode cJ6_bitCount_0f7a4 16 = .ok (.iconst 2, 1) := by decide +kernel
theorem dJ6_bitCount_0f7a4_17 : decode cJ6_bitCount_0f7a4 17 = .ok (.iushr, 1) := by decide +kernel
theorem dJ6_bitCount_0f7a4_18 : decode cJ6_bitCount_0f7a4 18 = .ok (.ldc_w 266, 3) := by decide +kernel
theorem dJ6_bitCount_0f7a4_21 : decode cJ6_bitCount_0f7a4 21 = .ok (.iand, 1) := by decide +kernel
theorem dJ6_bitCount_0f7a4_22 : decode cJ6_bitCount_0f7a4 22 = .ok (.iadd, 1) := by decide +kernel
theorem dJ6_bitCount_0f7a4_23 : decode cJ6_bitCount_0f7a4 23 = .ok (.istore_n 0, 1) := by decide +kernel
theorem dJ6_bitCount_0f7a4_24 : decode cJ6_bitCount_0f7a4 24 = .ok (.iload_n 0, 1) := by decide +kernel
theorem dJ6_bitCount_0f7a4_25 : decode cJ6_bitCount_0f7a4 25 = .ok (.iload_n 0, 1) := by decide +kernel
theorem dJ6_bitCount_0f7a4_26 : decode cJ6_bitCount_0f7a4 26 = .ok (.iconst 4, 1) := by decide +kernel
theorem dJ6_bitCount_0f7a4_27 : decode cJ6_bitCount_0f7a4 27 = .ok (.iushr, 1) := by decide +kernel
theorem dJ6_bitCount_0f7a4_28 : decode cJ6_bitCount_0f7a4 28 = .ok (.iadd, 1) := by decide +kernel
theorem dJ6_bitCount_0f7a4_29 : decode cJ6_bitCount_0f7a4 29 = .ok (.ldc_w 267, 3) := by decide +kernel
theorem dJ6_bitCount_0f7a4_32 : decode cJ6_bitCount_0f7a4 32 = .ok (.iand, 1) := by decide +kernel
theorem dJ6_bitCount_0f7a4_33 : decode cJ6_bitCount_0f7a4 33 = .ok (.istore_n 0, 1) := by decide +kernel
theorem dJ6_bitCount_0f7a4_34 : decode cJ6_bitCount_0f7a4 34 = .ok (.iload_n 0, 1) := by decide +kernel
theorem dJ6_bitCount_0f7a4_35 : decode cJ6_bitCount_0f7a4 35 = .ok (.iload_n 0, 1) := by decide +kernel
theorem dJ6_bitCount_0f7a4_36 : decode cJ6_bitCount_0f7a4 36 = .ok (.bipush 8, 2) := by decide +kernel
theorem dJ6_bitCount_0f7a4_38 : decode cJ6_bitCount_0f7a4 38 = .ok (.iushr, 1) := by decide +kernel
theorem dJ6_bitCount_0f7a4_39 : decode cJ6_bitCount_0f7a4 39 = .ok (.iadd, 1) := by decide +kernel
theorem dJ6_bitCount_0f7a4_40 : decode cJ6_bitCount_0f7a4 40 = .ok (.istore_n 0, 1) := by decide +kernel
theorem dJ6_bitCount_0f7a4_41 : decode cJ6_bitCount_0f7a4 41 = .ok (.iload_n 0, 1) := by decide +kernel
theorem dJ6_bitCount_0f7a4_42 : decode cJ6_bitCount_0f7a4 42 = .ok (.iload_n 0, 1) := by decide +kernel
theorem dJ6_bitCount_0f7a4_43 : decode cJ6_bitCount_0f7a4 43 = .ok (.bipush 16, 2) := by decide +kernel
theorem dJ6_bitCount_0f7a4_45 : decode cJ6_bitCount_0f7a4 45 = .ok (.iushr, 1) := by decide +kernel
theorem dJ6_bitCount_0f7a4_46 : decode cJ6_bitCount_0f7a4 46 = .ok (.iadd, 1) := by decide +kernel
theorem dJ6_bitCount_0f7a4_47 : decode cJ6_bitCount_0f7a4 47 = .ok (.istore_n 0, 1) := by decide +kernel
theorem dJ6_bitCount_0f7a4_48 : decode cJ6_bitCount_0f7a4 48 = .ok (.iload_n 0, 1) := by decide +kernel
theorem dJ6_bitCount_0f7a4_49 : decode cJ6_bitCount_0f7a4 49 = .ok (.bipush 63, 2) := by decide +kernel
theorem dJ6_bitCount_0f7a4_51 : decode cJ6_bitCount_0f7a4 51 = .ok (.iand, 1) := by decide +kernel
theorem dJ6_bitCount_0f7a4_52 : decode cJ6_bitCount_0f7a4 52 = .ok (.ireturn, 1) := by decide +kernel
theorem dJ9_abs_0f7a4_0 : decode cJ9_abs_0f7a4 0 = .ok (.iload_n 0, 1) := by decide +kernel
theorem dJ9_abs_0f7a4_1 : decode cJ9_abs_0f7a4 1 = .ok (.ifCond .ge 8, 3) := by decide +kernel
theorem dJ9_abs_0f7a4_4 : decode cJ9_abs_0f7a4 4 = .ok (.iload_n 0, 1) := by decide +kernel
theorem dJ9_abs_0f7a4_5 : decode cJ9_abs_0f7a4 5 = .ok (.ineg, 1) := by decide +kernel
theorem dJ9_abs_0f7a4_6 : decode cJ9_abs_0f7a4 6 = .ok (.goto 4, 3) := by decide +kernel
theorem dJ9_abs_0f7a4_9 : decode cJ9_abs_0f7a4 9 = .ok (.iload_n 0, 1) := by decide +kernel
theorem dJ9_abs_0f7a4_10 : decode cJ9_abs_0f7a4 10 = .ok (.ireturn, 1) := by decide +kernel
theorem dJ9_min_7cf53_0 : decode cJ9_min_7cf53 0 = .ok (.iload_n 0, 1) := by decide +kernel
theorem dJ9_min_7cf53_1 : decode cJ9_min_7cf53 1 = .ok (.iload_n 1, 1) := by decide +kernel
theorem dJ9_min_7cf53_2 : decode cJ9_min_7cf53 2 = .ok (.if_icmp .gt 7, 3) := by decide +kernel
theorem dJ9_min_7cf53_5 : decode cJ9_min_7cf53 5 = .ok (.iload_n 0, 1) := by decide +kernel
theorem dJ9_min_7cf53_6 : decode cJ9_min_7cf53 6 = .ok (.goto 4, 3) := by decide +kernel
theorem dJ9_min_7cf53_9 : decode cJ9_min_7cf53 9 = .ok (.iload_n 1, 1) := by decide +kernel
theorem dJ9_min_7cf53_10 : decode cJ9_min_7cf53 10 = .ok (.ireturn, 1) := by decide +kernel
theorem dL_lot_0 : decode cL_lot 0 = .ok (.iload_n 1, 1) := by decide +kernel
theorem dL_lot_1 : decode cL_lot 1 = .ok (.aload_n 0, 1) := by decide +kernel
theorem dL_lot_2 : decode cL_lot 2 = .ok (.arraylength, 1) := by decide +kernel
theorem dL_lot_3 : decode cL_lot 3 = .ok (.if_icmp .ge 9, 3) := by decide +kernel
theorem dL_lot_6 : decode cL_lot 6 = .ok (.aload_n 0, 1) := by decide +kernel
theorem dL_lot_7 : decode cL_lot 7 = .ok (.iload_n 1, 1) := by decide +kernel
theorem dL_lot_8 : decode cL_lot 8 = .ok (.iaload, 1) := by decide +kernel
theorem dL_lot_9 : decode cL_lot 9 = .ok (.goto 15, 3) := by decide +kernel
theorem dL_lot_12 : decode cL_lot 12 = .ok (.ldc 7, 2) := by decide +kernel
theorem dL_lot_14 : decode cL_lot 14 = .ok (.iload_n 1, 1) := by decide +kernel
theorem dL_lot_15 : decode cL_lot 15 = .ok (.sipush 4789, 3) := by decide +kernel
theorem dL_lot_18 : decode cL_lot 18 = .ok (.iadd, 1) := by decide +kernel
theorem dL_lot_19 : decode cL_lot 19 = .ok (.imul, 1) := by decide +kernel
theorem dL_lot_20 : decode cL_lot 20 = .ok (.sipush 4561, 3) := by decide +kernel
theorem dL_lot_23 : decode cL_lot 23 = .ok (.iadd, 1) := by decide +kernel
theorem dL_lot_24 : decode cL_lot 24 = .ok (.ireturn, 1) := by decide +kernel
theorem dL_low_0 : decode cL_low 0 = .ok (.iload_n 0, 1) := by decide +kernel
theorem dL_low_1 : decode cL_low 1 = .ok (.ldc 8, 2) := by decide +kernel
theorem dL_low_3 : decode cL_low 3 = .ok (.iand, 1) := by decide +kernel
theorem dL_low_4 : decode cL_low 4 = .ok (.iload_n 1, 1) := by decide +kernel
theorem dL_low_5 : decode cL_low 5 = .ok (.irem, 1) := by decide +kernel
theorem dL_low_6 : decode cL_low 6 = .ok (.ireturn, 1) := by decide +kernel
theorem dL_look_0 : decode cL_look 0 = .ok (.ldc2_w 9, 3) := by decide +kernel
theorem dL_look_3 : decode cL_look 3 = .ok (.lstore_n 1, 1) := by decide +kernel
theorem dL_look_4 : decode cL_look 4 = .ok (.iconst 0, 1) := by decide +kernel
theorem dL_look_5 : decode cL_look 5 = .ok (.istore_n 3, 1) := by decide +kernel
theorem dL_look_6 : decode cL_look 6 = .ok (.iload_n 3, 1) := by decide +kernel
theorem dL_look_7 : decode cL_look 7 = .ok (.bipush 13, 2) := by decide +kernel
theorem dL_look_9 : decode cL_look 9 = .ok (.if_icmp .ge 22, 3) := by decide +kernel
theorem dL_look_12 : decode cL_look 12 = .ok (.ldc2_w 11, 3) := by decide +kernel
theorem dL_look_15 : decode cL_look 15 = .ok (.lload_n 1, 1) := by decide +kernel
theorem dL_look_16 : decode cL_look 16 = .ok (.lmul, 1) := by decide +kernel
theorem dL_look_17 : decode cL_look 17 = .ok (.aload_n 0, 1) := by decide +kernel
theorem dL_look_18 : decode cL_look 18 = .ok (.iload_n 3, 1) := by decide +kernel
theorem dL_look_19 : decode cL_look 19 = .ok (.invokevirtual 13, 3) := by decide +kernel
theorem dL_look_22 : decode cL_look 22 = .ok (.i2l, 1) := by decide +kernel
theorem dL_look_23 : decode cL_look 23 = .ok (.ladd, 1) := by decide +kernel
theorem dL_look_24 : decode cL_look 24 = .ok (.lstore_n 1, 1) := by decide +kernel
theorem dL_look_25 : decode cL_look 25 = .ok (.iinc 3 1, 3) := by decide +kernel
theorem dL_look_28 : decode cL_look 28 = .ok (.goto (-22), 3) := by decide +kernel
theorem dL_look_31 : decode cL_look 31 = .ok (.iconst 0, 1) := by decide +kernel
theorem dL_look_32 : decode cL_look 32 = .ok (.istore_n 3, 1) := by decide +kernel
theorem dL_look_33 : decode cL_look 33 = .ok (.iload_n 3, 1) := by decide +kernel
theorem dL_look_34 : decode cL_look 34 = .ok (.aload_n 0, 1) := by decide +kernel
theorem dL_look_35 : decode cL_look 35 = .ok (.iconst 1, 1) := by decide +kernel
theorem dL_look_36 : decode cL_look 36 = .ok (.invokevirtual 13, 3) := by decide +kernel
theorem dL_look_39 : decode cL_look 39 = .ok (.if_icmp .ge 84, 3) := by decide +kernel
theorem dL_look_42 : decode cL_look 42 = .ok (.iconst 0, 1) := by decide +kernel
theorem dL_look_43 : decode cL_look 43 = .ok (.istore 4, 2) := by decide +kernel
theorem dL_look_45 : decode cL_look 45 = .ok (.iload 4, 2) := by decide +kernel
theorem dL_look_47 : decode cL_look 47 = .ok (.bipush 10, 2) := by decide +kernel
theorem dL_look_49 : decode cL_look 49 = .ok (.if_icmp .ge 24, 3) := by decide +kernel
theorem dL_look_52 : decode cL_look 52 = .ok (.ldc2_w 11, 3) := by decide +kernel
theorem dL_look_55 : decode cL_look 55 = .ok (.lload_n 1, 1) := by decide +kernel
theorem dL_look_56 : decode cL_look 56 = .ok (.lmul, 1) := by decide +kernel
theorem dL_look_57 : decode cL_look 57 = .ok (.aload_n 0, 1) := by decide +kernel
theorem dL_look_58 : decode cL_look 58 = .ok (.iload_n 3, 1) := by decide +kernel
theorem dL_look_59 : decode cL_look 59 = .ok (.iload 4, 2) := by decide +kernel
theorem dL_look_61 : decode cL_look 61 = .ok (.invokevirtual 19, 3) := by decide +kernel
theorem dL_look_64 : decode cL_look 64 = .ok (.i2l, 1) := by decide +kernel
theorem dL_look_65 : decode cL_look 65 = .ok (.ladd, 1) := by decide +kernel
theorem dL_look_66 : decode cL_look 66 = .ok (.lstore_n 1, 1) := by decide +kernel
theorem dL_look_67 : decode cL_look 67 = .ok (.iinc 4 1, 3) := by decide +kernel
theorem dL_look_70 : decode cL_look 70 = .ok (.goto (-25), 3) := by decide +kernel
theorem dL_look_73 : decode cL_look 73 = .ok (.iconst 0, 1) := by decide +kernel
theorem dL_look_74 : decode cL_look 74 = .ok (.istore 4, 2) := by decide +kernel
theorem dL_look_76 : decode cL_look 76 = .ok (.iload 4, 2) := by decide +kernel
theorem dL_look_78 : decode cL_look 78 = .ok (.aload_n 0, 1) := by decide +kernel
theorem dL_look_79 : decode cL_look 79 = .ok (.iload_n 3, 1) := by decide +kernel
theorem dL_look_80 : decode cL_look 80 = .ok (.iconst 0, 1) := by decide +kernel
theorem dL_look_81 : decode cL_look 81 = .ok (.invokevirtual 19, 3) := by decide +kernel
theorem dL_look_84 : decode cL_look 84 = .ok (.aload_n 0, 1) := by decide +kernel
theorem dL_look_85 : decode cL_look 85 = .ok (.iload_n 3, 1) := by decide +kernel
theorem dL_look_86 : decode cL_look 86 = .ok (.iconst 2, 1) := by decide +kernel
theorem dL_look_87 : decode cL_look 87 = .ok (.invokevirtual 19, 3) := by decide +kernel
theorem dL_look_90 : decode cL_look 90 = .ok (.iadd, 1) := by decide +kernel
theorem dL_look_91 : decode cL_look 91 = .ok (.iconst 1, 1) := by decide +kernel
theorem dL_look_92 : decode cL_look 92 = .ok (.isub, 1) := by decide +kernel
theorem dL_look_93 : decode cL_look 93 = .ok (.if_icmp .ge 24, 3) := by decide +kernel
theorem dL_look_96 : decode cL_look 96 = .ok (.ldc2_w 11, 3) := by decide +kernel
theorem dL_look_99 : decode cL_look 99 = .ok (.lload_n 1, 1) := by decide +kernel
theorem dL_look_100 : decode cL_look 100 = .ok (.lmul, 1) := by decide +kernel
theorem dL_look_101 : decode cL_look 101 = .ok (.aload_n 0, 1) := by decide +kernel
theorem dL_look_102 : decode cL_look 102 = .ok (.iload_n 3, 1) := by decide +kernel
theorem dL_look_103 : decode cL_look 103 = .ok (.iload 4, 2) := by decide +kernel
theorem dL_look_105 : decode cL_look 105 = .ok (.invokevirtual 23, 3) := by decide +kernel
theorem dL_look_108 : decode cL_look 108 = .ok (.i2l, 1) := by decide +kernel
theorem dL_look_109 : decode cL_look 109 = .ok (.ladd, 1) := by decide +kernel
theorem dL_look_110 : decode cL_look 110 = .ok (.lstore_n 1, 1) := by decide +kernel
theorem dL_look_111 : decode cL_look 111 = .ok (.iinc 4 1, 3) := by decide +kernel
theorem dL_look_114 : decode cL_look 114 = .ok (.goto (-38), 3) := by decide +kernel
theorem dL_look_117 : decode cL_look 117 = .ok (.iinc 3 1, 3) := by decide +kernel
theorem dL_look_120 : decode cL_look 120 = .ok (.goto (-87), 3) := by decide +kernel
theorem dL_look_123 : decode cL_look 123 = .ok (.iconst 0, 1) := by decide +kernel
theorem dL_look_124 : decode cL_look 124 = .ok (.istore_n 3, 1) := by decide +kernel
theorem dL_look_125 : decode cL_look 125 = .ok (.iload_n 3, 1) := by decide +kernel
theorem dL_look_126 : decode cL_look 126 = .ok (.aload_n 0, 1) := by decide +kernel
theorem dL_look_127 : decode cL_look 127 = .ok (.iconst 4, 1) := by decide +kernel
theorem dL_look_128 : decode cL_look 128 = .ok (.invokevirtual 13, 3) := by decide +kernel
theorem dL_look_131 : decode cL_look 131 = .ok (.if_icmp .ge 40, 3) := by decide +kernel
theorem dL_look_134 : decode cL_look 134 = .ok (.iconst 0, 1) := by decide +kernel
theorem dL_look_135 : decode cL_look 135 = .ok (.istore 4, 2) := by decide +kernel
theorem dL_look_137 : decode cL_look 137 = .ok (.iload 4, 2) := by decide +kernel
theorem dL_look_139 : decode cL_look 139 = .ok (.bipush 8, 2) := by decide +kernel
theorem dL_look_141 : decode cL_look 141 = .ok (.if_icmp .ge 24, 3) := by decide +kernel
theorem dL_look_144 : decode cL_look 144 = .ok (.ldc2_w 11, 3) := by decide +kernel
theorem dL_look_147 : decode cL_look 147 = .ok (.lload_n 1, 1) := by decide +kernel
theorem dL_look_148 : decode cL_look 148 = .ok (.lmul, 1) := by decide +kernel
theorem dL_look_149 : decode cL_look 149 = .ok (.aload_n 0, 1) := by decide +kernel
theorem dL_look_150 : decode cL_look 150 = .ok (.iload_n 3, 1) := by decide +kernel
theorem dL_look_151 : decode cL_look 151 = .ok (.iload 4, 2) := by decide +kernel
theorem dL_look_153 : decode cL_look 153 = .ok (.invokevirtual 26, 3) := by decide +kernel
theorem dL_look_156 : decode cL_look 156 = .ok (.i2l, 1) := by decide +kernel
theorem dL_look_157 : decode cL_look 157 = .ok (.ladd, 1) := by decide +kernel
theorem dL_look_158 : decode cL_look 158 = .ok (.lstore_n 1, 1) := by decide +kernel
theorem dL_look_159 : decode cL_look 159 = .ok (.iinc 4 1, 3) := by decide +kernel
theorem dL_look_162 : decode cL_look 162 = .ok (.goto (-25), 3) := by decide +kernel
theorem dL_look_165 : decode cL_look 165 = .ok (.iinc 3 1, 3) := by decide +kernel
theorem dL_look_168 : decode cL_look 168 = .ok (.goto (-43), 3) := by decide +kernel
theorem dL_look_171 : decode cL_look 171 = .ok (.lload_n 1, 1) := by decide +kernel
theorem dL_look_172 : decode cL_look 172 = .ok (.lreturn, 1) := by decide +kernel
theorem dL_ones_0 : decode cL_ones 0 = .ok (.iconst 0, 1) := by decide +kernel
theorem dL_ones_1 : decode cL_ones 1 = .ok (.istore_n 1, 1) := by decide +kernel
theorem dL_ones_2 : decode cL_ones 2 = .ok (.iconst 0, 1) := by decide +kernel
theorem dL_ones_3 : decode cL_ones 3 = .ok (.istore_n 2, 1) := by decide +kernel
theorem dL_ones_4 : decode cL_ones 4 = .ok (.iload_n 2, 1) := by decide +kernel
theorem dL_ones_5 : decode cL_ones 5 = .ok (.bipush 12, 2) := by decide +kernel
theorem dL_ones_7 : decode cL_ones 7 = .ok (.if_icmp .ge 17, 3) := by decide +kernel
theorem dL_ones_10 : decode cL_ones 10 = .ok (.iload_n 1, 1) := by decide +kernel
theorem dL_ones_11 : decode cL_ones 11 = .ok (.iload_n 0, 1) := by decide +kernel
theorem dL_ones_12 : decode cL_ones 12 = .ok (.iload_n 2, 1) := by decide +kernel
theorem dL_ones_13 : decode cL_ones 13 = .ok (.ishr, 1) := by decide +kernel
theorem dL_ones_14 : decode cL_ones 14 = .ok (.iconst 1, 1) := by decide +kernel
theorem dL_ones_15 : decode cL_ones 15 = .ok (.iand, 1) := by decide +kernel
theorem dL_ones_16 : decode cL_ones 16 = .ok (.iadd, 1) := by decide +kernel
theorem dL_ones_17 : decode cL_ones 17 = .ok (.istore_n 1, 1) := by decide +kernel
theorem dL_ones_18 : decode cL_ones 18 = .ok (.iinc 2 1, 3) := by decide +kernel
theorem dL_ones_21 : decode cL_ones 21 = .ok (.goto (-17), 3) := by decide +kernel
theorem dL_ones_24 : decode cL_ones 24 = .ok (.iload_n 1, 1) := by decide +kernel
theorem dL_ones_25 : decode cL_ones 25 = .ok (.ireturn, 1) := by decide +kernel
theorem dL_kind_0 : decode cL_kind 0 = .ok (.aload_n 0, 1) := by decide +kernel
theorem dL_kind_1 : decode cL_kind 1 = .ok (.iload_n 1, 1) := by decide +kernel
theorem dL_kind_2 : decode cL_kind 2 = .ok (.iconst 1, 1) := by decide +kernel
theorem dL_kind_3 : decode cL_kind 3 = .ok (.invokevirtual 19, 3) := by decide +kernel
theorem dL_kind_6 : decode cL_kind 6 = .ok (.istore_n 3, 1) := by decide +kernel
theorem dL_kind_7 : decode cL_kind 7 = .ok (.aload_n 0, 1) := by decide +kernel
theorem dL_kind_8 : decode cL_kind 8 = .ok (.iload_n 1, 1) := by decide +kernel
theorem dL_kind_9 : decode cL_kind 9 = .ok (.iload_n 2, 1) := by decide +kernel
theorem dL_kind_10 : decode cL_kind 10 = .ok (.iload_n 3, 1) := by decide +kernel
theorem dL_kind_11 : decode cL_kind 11 = .ok (.iconst 1, 1) := by decide +kernel
theorem dL_kind_12 : decode cL_kind 12 = .ok (.iload_n 2, 1) := by decide +kernel
theorem dL_kind_13 : decode cL_kind 13 = .ok (.ishl, 1) := by decide +kernel
theorem dL_kind_14 : decode cL_kind 14 = .ok (.iconst 1, 1) := by decide +kernel
theorem dL_kind_15 : decode cL_kind 15 = .ok (.isub, 1) := by decide +kernel
theorem dL_kind_16 : decode cL_kind 16 = .ok (.iand, 1) := by decide +kernel
theorem dL_kind_17 : decode cL_kind 17 = .ok (.invokestatic 29, 3) := by decide +kernel
theorem dL_kind_20 : decode cL_kind 20 = .ok (.iadd, 1) := by decide +kernel
theorem dL_kind_21 : decode cL_kind 21 = .ok (.invokevirtual 23, 3) := by decide +kernel
theorem dL_kind_24 : decode cL_kind 24 = .ok (.bipush 97, 2) := by decide +kernel
theorem dL_kind_26 : decode cL_kind 26 = .ok (.isub, 1) := by decide +kernel
theorem dL_kind_27 : decode cL_kind 27 = .ok (.ireturn, 1) := by decide +kernel
theorem dL_rulings_0 : decode cL_rulings 0 = .ok (.iconst 0, 1) := by decide +kernel
theorem dL_rulings_1 : decode cL_rulings 1 = .ok (.istore_n 1, 1) := by decide +kernel
theorem dL_rulings_2 : decode cL_rulings 2 = .ok (.iconst 0, 1) := by decide +kernel
theorem dL_rulings_3 : decode cL_rulings 3 = .ok (.istore_n 2, 1) := by decide +kernel
theorem dL_rulings_4 : decode cL_rulings 4 = .ok (.aload_n 0, 1) := by decide +kernel
theorem dL_rulings_5 : decode cL_rulings 5 = .ok (.aload_n 0, 1) := by decide +kernel
theorem dL_rulings_6 : decode cL_rulings 6 = .ok (.iconst 4, 1) := by decide +kernel
theorem dL_rulings_7 : decode cL_rulings 7 = .ok (.invokevirtual 13, 3) := by decide +kernel
theorem dL_rulings_10 : decode cL_rulings 10 = .ok (.iconst 0, 1) := by decide +kernel
theorem dL_rulings_11 : decode cL_rulings 11 = .ok (.invokevirtual 26, 3) := by decide +kernel
theorem dL_rulings_14 : decode cL_rulings 14 = .ok (.iconst (-1), 1) := by decide +kernel
theorem dL_rulings_15 : decode cL_rulings 15 = .ok (.if_icmp .ne 17, 3) := by decide +kernel
theorem dL_rulings_18 : decode cL_rulings 18 = .ok (.aload_n 0, 1) := by decide +kernel
theorem dL_rulings_19 : decode cL_rulings 19 = .ok (.iconst 4, 1) := by decide +kernel
theorem dL_rulings_20 : decode cL_rulings 20 = .ok (.invokevirtual 13, 3) := by decide +kernel
theorem dL_rulings_23 : decode cL_rulings 23 = .ok (.bipush 10, 2) := by decide +kernel
theorem dL_rulings_25 : decode cL_rulings 25 = .ok (.if_icmp .gt 7, 3) := by decide +kernel
theorem dL_rulings_28 : decode cL_rulings 28 = .ok (.iconst 1, 1) := by decide +kernel
theorem dL_rulings_29 : decode cL_rulings 29 = .ok (.goto 4, 3) := by decide +kernel
theorem dL_rulings_32 : decode cL_rulings 32 = .ok (.iconst 0, 1) := by decide +kernel
theorem dL_rulings_33 : decode cL_rulings 33 = .ok (.istore_n 3, 1) := by decide +kernel
theorem dL_rulings_34 : decode cL_rulings 34 = .ok (.iconst 0, 1) := by decide +kernel
theorem dL_rulings_35 : decode cL_rulings 35 = .ok (.istore 4, 2) := by decide +kernel
theorem dL_rulings_37 : decode cL_rulings 37 = .ok (.iload 4, 2) := by decide +kernel
theorem dL_rulings_39 : decode cL_rulings 39 = .ok (.aload_n 0, 1) := by decide +kernel
theorem dL_rulings_40 : decode cL_rulings 40 = .ok (.iconst 4, 1) := by decide +kernel
theorem dL_rulings_41 : decode cL_rulings 41 = .ok (.invokevirtual 13, 3) := by decide +kernel
theorem dL_rulings_44 : decode cL_rulings 44 = .ok (.if_icmp .ge 342, 3) := by decide +kernel
theorem dL_rulings_47 : decode cL_rulings 47 = .ok (.iload_n 3, 1) := by decide +kernel
theorem dL_rulings_48 : decode cL_rulings 48 = .ok (.ifCond .eq 338, 3) := by decide +kernel
theorem dL_rulings_51 : decode cL_rulings 51 = .ok (.aload_n 0, 1) := by decide +kernel
theorem dL_rulings_52 : decode cL_rulings 52 = .ok (.iload 4, 2) := by decide +kernel
theorem dL_rulings_54 : decode cL_rulings 54 = .ok (.iconst 4, 1) := by decide +kernel
theorem dL_rulings_55 : decode cL_rulings 55 = .ok (.invokevirtual 26, 3) := by decide +kernel
theorem dL_rulings_58 : decode cL_rulings 58 = .ok (.istore 5, 2) := by decide +kernel
theorem dL_rulings_60 : decode cL_rulings 60 = .ok (.iconst 0, 1) := by decide +kernel
theorem dL_rulings_61 : decode cL_rulings 61 = .ok (.istore 6, 2) := by decide +kernel
theorem dL_rulings_63 : decode cL_rulings 63 = .ok (.iconst 0, 1) := by decide +kernel
theorem dL_rulings_64 : decode cL_rulings 64 = .ok (.istore 7, 2) := by decide +kernel
theorem dL_rulings_66 : decode cL_rulings 66 = .ok (.iconst 0, 1) := by decide +kernel
theorem dL_rulings_67 : decode cL_rulings 67 = .ok (.istore 8, 2) := by decide +kernel
theorem dL_rulings_69 : decode cL_rulings 69 = .ok (.iload 8, 2) := by decide +kernel
theorem dL_rulings_71 : decode cL_rulings 71 = .ok (.aload_n 0, 1) := by decide +kernel
theorem dL_rulings_72 : decode cL_rulings 72 = .ok (.iconst 4, 1) := by decide +kernel
theorem dL_rulings_73 : decode cL_rulings 73 = .ok (.invokevirtual 13, 3) := by decide +kernel
theorem dL_rulings_76 : decode cL_rulings 76 = .ok (.if_icmp .ge 95, 3) := by decide +kernel
theorem dL_rulings_79 : decode cL_rulings 79 = .ok (.iload 6, 2) := by decide +kernel
theorem dL_rulings_81 : decode cL_rulings 81 = .ok (.aload_n 0, 1) := by decide +kernel
theorem dL_rulings_82 : decode cL_rulings 82 = .ok (.iload 8, 2) := by decide +kernel
theorem dL_rulings_84 : decode cL_rulings 84 = .ok (.iconst 4, 1) := by decide +kernel
theorem dL_rulings_85 : decode cL_rulings 85 = .ok (.invokevirtual 26, 3) := by decide +kernel
theorem dL_rulings_88 : decode cL_rulings 88 = .ok (.iload 4, 2) := by decide +kernel
theorem dL_rulings_90 : decode cL_rulings 90 = .ok (.if_icmp .ne 7, 3) := by decide +kernel
theorem dL_rulings_93 : decode cL_rulings 93 = .ok (.iconst 1, 1) := by decide +kernel
theorem dL_rulings_94 : decode cL_rulings 94 = .ok (.goto 4, 3) := by decide +kernel
theorem dL_rulings_97 : decode cL_rulings 97 = .ok (.iconst 0, 1) := by decide +kernel
theorem dL_rulings_98 : decode cL_rulings 98 = .ok (.iadd, 1) := by decide +kernel
theorem dL_rulings_99 : decode cL_rulings 99 = .ok (.istore 6, 2) := by decide +kernel
theorem dL_rulings_101 : decode cL_rulings 101 = .ok (.iload 7, 2) := by decide +kernel
theorem dL_rulings_103 : decode cL_rulings 103 = .ok (.ifCond .ne 55, 3) := by decide +kernel
theorem dL_rulings_106 : decode cL_rulings 106 = .ok (.iload 8, 2) := by decide +kernel
theorem dL_rulings_108 : decode cL_rulings 108 = .ok (.iload 4, 2) := by decide +kernel
theorem dL_rulings_110 : decode cL_rulings 110 = .ok (.if_icmp .le 52, 3) := by decide +kernel
theorem dL_rulings_113 : decode cL_rulings 113 = .ok (.aload_n 0, 1) := by decide +kernel
theorem dL_rulings_114 : decode cL_rulings 114 = .ok (.iload 8, 2) := by decide +kernel
theorem dL_rulings_116 : decode cL_rulings 116 = .ok (.iconst 0, 1) := by decide +kernel
theorem dL_rulings_117 : decode cL_rulings 117 = .ok (.invokevirtual 26, 3) := by decide +kernel
theorem dL_rulings_120 : decode cL_rulings 120 = .ok (.aload_n 0, 1) := by decide +kernel
theorem dL_rulings_121 : decode cL_rulings 121 = .ok (.iload 4, 2) := by decide +kernel
theorem dL_rulings_123 : decode cL_rulings 123 = .ok (.iconst 0, 1) := by decide +kernel
theorem dL_rulings_124 : decode cL_rulings 124 = .ok (.invokevirtual 26, 3) := by decide +kernel
theorem dL_rulings_127 : decode cL_rulings 127 = .ok (.if_icmp .ne 35, 3) := by decide +kernel
theorem dL_rulings_130 : decode cL_rulings 130 = .ok (.aload_n 0, 1) := by decide +kernel
theorem dL_rulings_131 : decode cL_rulings 131 = .ok (.iload 8, 2) := by decide +kernel
theorem dL_rulings_133 : decode cL_rulings 133 = .ok (.iconst 1, 1) := by decide +kernel
theorem dL_rulings_134 : decode cL_rulings 134 = .ok (.invokevirtual 26, 3) := by decide +kernel
theorem dL_rulings_137 : decode cL_rulings 137 = .ok (.aload_n 0, 1) := by decide +kernel
theorem dL_rulings_138 : decode cL_rulings 138 = .ok (.iload 4, 2) := by decide +kernel
theorem dL_rulings_140 : decode cL_rulings 140 = .ok (.iconst 1, 1) := by decide +kernel
theorem dL_rulings_141 : decode cL_rulings 141 = .ok (.invokevirtual 26, 3) := by decide +kernel
theorem dL_rulings_144 : decode cL_rulings 144 = .ok (.if_icmp .ne 18, 3) := by decide +kernel
theorem dL_rulings_147 : decode cL_rulings 147 = .ok (.aload_n 0, 1) := by decide +kernel
theorem dL_rulings_148 : decode cL_rulings 148 = .ok (.iload 8, 2) := by decide +kernel
theorem dL_rulings_150 : decode cL_rulings 150 = .ok (.iconst 5, 1) := by decide +kernel
theorem dL_rulings_151 : decode cL_rulings 151 = .ok (.invokevirtual 26, 3) := by decide +kernel
theorem dL_rulings_154 : decode cL_rulings 154 = .ok (.iconst 1, 1) := by decide +kernel
theorem dL_rulings_155 : decode cL_rulings 155 = .ok (.if_icmp .ne 7, 3) := by decide +kernel
theorem dL_rulings_158 : decode cL_rulings 158 = .ok (.iconst 1, 1) := by decide +kernel
theorem dL_rulings_159 : decode cL_rulings 159 = .ok (.goto 4, 3) := by decide +kernel
theorem dL_rulings_162 : decode cL_rulings 162 = .ok (.iconst 0, 1) := by decide +kernel
theorem dL_rulings_163 : decode cL_rulings 163 = .ok (.istore 7, 2) := by decide +kernel
theorem dL_rulings_165 : decode cL_rulings 165 = .ok (.iinc 8 1, 3) := by decide +kernel
theorem dL_rulings_168 : decode cL_rulings 168 = .ok (.goto (-99), 3) := by decide +kernel
theorem dL_rulings_171 : decode cL_rulings 171 = .ok (.iload_n 1, 1) := by decide +kernel
theorem dL_rulings_172 : decode cL_rulings 172 = .ok (.aload_n 0, 1) := by decide +kernel
theorem dL_rulings_173 : decode cL_rulings 173 = .ok (.iload 4, 2) := by decide +kernel
theorem dL_rulings_175 : decode cL_rulings 175 = .ok (.iconst 5, 1) := by decide +kernel
theorem dL_rulings_176 : decode cL_rulings 176 = .ok (.invokevirtual 26, 3) := by decide +kernel
theorem dL_rulings_179 : decode cL_rulings 179 = .ok (.iadd, 1) := by decide +kernel
theorem dL_rulings_180 : decode cL_rulings 180 = .ok (.istore_n 1, 1) := by decide +kernel
theorem dL_rulings_181 : decode cL_rulings 181 = .ok (.iload_n 2, 1) := by decide +kernel
theorem dL_rulings_182 : decode cL_rulings 182 = .ok (.aload_n 0, 1) := by decide +kernel
theorem dL_rulings_183 : decode cL_rulings 183 = .ok (.iload 4, 2) := by decide +kernel
theorem dL_rulings_185 : decode cL_rulings 185 = .ok (.bipush 6, 2) := by decide +kernel
theorem dL_rulings_187 : decode cL_rulings 187 = .ok (.invokevirtual 26, 3) := by decide +kernel
theorem dL_rulings_190 : decode cL_rulings 190 = .ok (.iadd, 1) := by decide +kernel
theorem dL_rulings_191 : decode cL_rulings 191 = .ok (.istore_n 2, 1) := by decide +kernel
theorem dL_rulings_192 : decode cL_rulings 192 = .ok (.aload_n 0, 1) := by decide +kernel
theorem dL_rulings_193 : decode cL_rulings 193 = .ok (.iload 4, 2) := by decide +kernel
theorem dL_rulings_195 : decode cL_rulings 195 = .ok (.iconst 0, 1) := by decide +kernel
theorem dL_rulings_196 : decode cL_rulings 196 = .ok (.invokevirtual 26, 3) := by decide +kernel
theorem dL_rulings_199 : decode cL_rulings 199 = .ok (.ifCond .lt 179, 3) := by decide +kernel
theorem dL_rulings_202 : decode cL_rulings 202 = .ok (.aload_n 0, 1) := by decide +kernel
theorem dL_rulings_203 : decode cL_rulings 203 = .ok (.iload 4, 2) := by decide +kernel
theorem dL_rulings_205 : decode cL_rulings 205 = .ok (.iconst 0, 1) := by decide +kernel
theorem dL_rulings_206 : decode cL_rulings 206 = .ok (.invokevirtual 26, 3) := by decide +kernel
theorem dL_rulings_209 : decode cL_rulings 209 = .ok (.bipush 6, 2) := by decide +kernel
theorem dL_rulings_211 : decode cL_rulings 211 = .ok (.if_icmp .ge 167, 3) := by decide +kernel
theorem dL_rulings_214 : decode cL_rulings 214 = .ok (.aload_n 0, 1) := by decide +kernel
theorem dL_rulings_215 : decode cL_rulings 215 = .ok (.iload 4, 2) := by decide +kernel
theorem dL_rulings_217 : decode cL_rulings 217 = .ok (.iconst 1, 1) := by decide +kernel
theorem dL_rulings_218 : decode cL_rulings 218 = .ok (.invokevirtual 26, 3) := by decide +kernel
theorem dL_rulings_221 : decode cL_rulings 221 = .ok (.ifCond .lt 157, 3) := by decide +kernel
theorem dL_rulings_224 : decode cL_rulings 224 = .ok (.aload_n 0, 1) := by decide +kernel
theorem dL_rulings_225 : decode cL_rulings 225 = .ok (.iload 4, 2) := by decide +kernel
theorem dL_rulings_227 : decode cL_rulings 227 = .ok (.iconst 1, 1) := by decide +kernel
theorem dL_rulings_228 : decode cL_rulings 228 = .ok (.invokevirtual 26, 3) := by decide +kernel
theorem dL_rulings_231 : decode cL_rulings 231 = .ok (.bipush 6, 2) := by decide +kernel
theorem dL_rulings_233 : decode cL_rulings 233 = .ok (.if_icmp .ge 145, 3) := by decide +kernel
theorem dL_rulings_236 : decode cL_rulings 236 = .ok (.aload_n 0, 1) := by decide +kernel
theorem dL_rulings_237 : decode cL_rulings 237 = .ok (.iload 4, 2) := by decide +kernel
theorem dL_rulings_239 : decode cL_rulings 239 = .ok (.iconst 3, 1) := by decide +kernel
theorem dL_rulings_240 : decode cL_rulings 240 = .ok (.invokevirtual 26, 3) := by decide +kernel
theorem dL_rulings_243 : decode cL_rulings 243 = .ok (.iconst 1, 1) := by decide +kernel
theorem dL_rulings_244 : decode cL_rulings 244 = .ok (.if_icmp .lt 134, 3) := by decide +kernel
theorem dL_rulings_247 : decode cL_rulings 247 = .ok (.aload_n 0, 1) := by decide +kernel
theorem dL_rulings_248 : decode cL_rulings 248 = .ok (.iload 4, 2) := by decide +kernel
theorem dL_rulings_250 : decode cL_rulings 250 = .ok (.iconst 3, 1) := by decide +kernel
theorem dL_rulings_251 : decode cL_rulings 251 = .ok (.invokevirtual 26, 3) := by decide +kernel
theorem dL_rulings_254 : decode cL_rulings 254 = .ok (.bipush 20, 2) := by decide +kernel
theorem dL_rulings_256 : decode cL_rulings 256 = .ok (.if_icmp .gt 122, 3) := by decide +kernel
theorem dL_rulings_259 : decode cL_rulings 259 = .ok (.iload 5, 2) := by decide +kernel
theorem dL_rulings_261 : decode cL_rulings 261 = .ok (.bipush (-4), 2) := by decide +kernel
theorem dL_rulings_263 : decode cL_rulings 263 = .ok (.if_icmp .eq 32, 3) := by decide +kernel
theorem dL_rulings_266 : decode cL_rulings 266 = .ok (.iload 5, 2) := by decide +kernel
theorem dL_rulings_268 : decode cL_rulings 268 = .ok (.ifCond .lt 110, 3) := by decide +kernel
theorem dL_rulings_271 : decode cL_rulings 271 = .ok (.iload 5, 2) := by decide +kernel
theorem dL_rulings_273 : decode cL_rulings 273 = .ok (.iload 4, 2) := by decide +kernel
theorem dL_rulings_275 : decode cL_rulings 275 = .ok (.if_icmp .ge 103, 3) := by decide +kernel
theorem dL_rulings_278 : decode cL_rulings 278 = .ok (.aload_n 0, 1) := by decide +kernel
theorem dL_rulings_279 : decode cL_rulings 279 = .ok (.iload 4, 2) := by decide +kernel
theorem dL_rulings_281 : decode cL_rulings 281 = .ok (.iconst 5, 1) := by decide +kernel
theorem dL_rulings_282 : decode cL_rulings 282 = .ok (.invokevirtual 26, 3) := by decide +kernel
theorem dL_rulings_285 : decode cL_rulings 285 = .ok (.aload_n 0, 1) := by decide +kernel
theorem dL_rulings_286 : decode cL_rulings 286 = .ok (.iload 5, 2) := by decide +kernel
theorem dL_rulings_288 : decode cL_rulings 288 = .ok (.iconst 5, 1) := by decide +kernel
theorem dL_rulings_289 : decode cL_rulings 289 = .ok (.invokevirtual 26, 3) := by decide +kernel
theorem dL_rulings_292 : decode cL_rulings 292 = .ok (.if_icmp .gt 86, 3) := by decide +kernel
theorem dL_rulings_295 : decode cL_rulings 295 = .ok (.aload_n 0, 1) := by decide +kernel
theorem dL_rulings_296 : decode cL_rulings 296 = .ok (.iload 4, 2) := by decide +kernel
theorem dL_rulings_298 : decode cL_rulings 298 = .ok (.bipush 7, 2) := by decide +kernel
theorem dL_rulings_300 : decode cL_rulings 300 = .ok (.invokevirtual 26, 3) := by decide +kernel
theorem dL_rulings_303 : decode cL_rulings 303 = .ok (.iload 6, 2) := by decide +kernel
theorem dL_rulings_305 : decode cL_rulings 305 = .ok (.if_icmp .ne 73, 3) := by decide +kernel
theorem dL_rulings_308 : decode cL_rulings 308 = .ok (.aload_n 0, 1) := by decide +kernel
theorem dL_rulings_309 : decode cL_rulings 309 = .ok (.iload 4, 2) := by decide +kernel
theorem dL_rulings_311 : decode cL_rulings 311 = .ok (.bipush 6, 2) := by decide +kernel
theorem dL_rulings_313 : decode cL_rulings 313 = .ok (.invokevirtual 26, 3) := by decide +kernel
theorem dL_rulings_316 : decode cL_rulings 316 = .ok (.aload_n 0, 1) := by decide +kernel
theorem dL_rulings_317 : decode cL_rulings 317 = .ok (.iload 4, 2) := by decide +kernel
theorem dL_rulings_319 : decode cL_rulings 319 = .ok (.iconst 5, 1) := by decide +kernel
theorem dL_rulings_320 : decode cL_rulings 320 = .ok (.invokevirtual 26, 3) := by decide +kernel
theorem dL_rulings_323 : decode cL_rulings 323 = .ok (.iconst 1, 1) := by decide +kernel
theorem dL_rulings_324 : decode cL_rulings 324 = .ok (.if_icmp .ne 12, 3) := by decide +kernel
theorem dL_rulings_327 : decode cL_rulings 327 = .ok (.iload 7, 2) := by decide +kernel
theorem dL_rulings_329 : decode cL_rulings 329 = .ok (.ifCond .ne 7, 3) := by decide +kernel
theorem dL_rulings_332 : decode cL_rulings 332 = .ok (.iconst 1, 1) := by decide +kernel
theorem dL_rulings_333 : decode cL_rulings 333 = .ok (.goto 4, 3) := by decide +kernel
theorem dL_rulings_336 : decode cL_rulings 336 = .ok (.iconst 0, 1) := by decide +kernel
theorem dL_rulings_337 : decode cL_rulings 337 = .ok (.if_icmp .ne 41, 3) := by decide +kernel
theorem dL_rulings_340 : decode cL_rulings 340 = .ok (.aload_n 0, 1) := by decide +kernel
theorem dL_rulings_341 : decode cL_rulings 341 = .ok (.iload 4, 2) := by decide +kernel
theorem dL_rulings_343 : decode cL_rulings 343 = .ok (.bipush 8, 2) := by decide +kernel
theorem dL_rulings_345 : decode cL_rulings 345 = .ok (.invokevirtual 26, 3) := by decide +kernel
theorem dL_rulings_348 : decode cL_rulings 348 = .ok (.ifCond .lt 30, 3) := by decide +kernel
theorem dL_rulings_351 : decode cL_rulings 351 = .ok (.aload_n 0, 1) := by decide +kernel
theorem dL_rulings_352 : decode cL_rulings 352 = .ok (.iload 4, 2) := by decide +kernel
theorem dL_rulings_354 : decode cL_rulings 354 = .ok (.bipush 6, 2) := by decide +kernel
theorem dL_rulings_356 : decode cL_rulings 356 = .ok (.invokevirtual 26, 3) := by decide +kernel
theorem dL_rulings_359 : decode cL_rulings 359 = .ok (.iconst 1, 1) := by decide +kernel
theorem dL_rulings_360 : decode cL_rulings 360 = .ok (.if_icmp .eq 14, 3) := by decide +kernel
theorem dL_rulings_363 : decode cL_rulings 363 = .ok (.aload_n 0, 1) := by decide +kernel
