theorem dX5_ways_28 : decode cX5_ways 28 = .ok (.aload_n 0, 1) := by decide +kernel
theorem dX5_ways_29 : decode cX5_ways 29 = .ok (.getfield 10, 3) := by decide +kernel
theorem dX5_ways_32 : decode cX5_ways 32 = .ok (.aload_n 3, 1) := by decide +kernel
theorem dX5_ways_33 : decode cX5_ways 33 = .ok (.invokevirtual 170, 3) := by decide +kernel
theorem dX5_ways_36 : decode cX5_ways 36 = .ok (.iload_n 2, 1) := by decide +kernel
theorem dX5_ways_37 : decode cX5_ways 37 = .ok (.ifCond .ne 13, 3) := by decide +kernel
theorem dX5_ways_40 : decode cX5_ways 40 = .ok (.aload_n 0, 1) := by decide +kernel
theorem dX5_ways_41 : decode cX5_ways 41 = .ok (.getfield 40, 3) := by decide +kernel
theorem dX5_ways_44 : decode cX5_ways 44 = .ok (.invokevirtual 248, 3) := by decide +kernel
theorem dX5_ways_47 : decode cX5_ways 47 = .ok (.goto 12, 3) := by decide +kernel
theorem dX5_ways_50 : decode cX5_ways 50 = .ok (.aload_n 0, 1) := by decide +kernel
theorem dX5_ways_51 : decode cX5_ways 51 = .ok (.getfield 40, 3) := by decide +kernel
theorem dX5_ways_54 : decode cX5_ways 54 = .ok (.iconst 0, 1) := by decide +kernel
theorem dX5_ways_55 : decode cX5_ways 55 = .ok (.iconst 0, 1) := by decide +kernel
theorem dX5_ways_56 : decode cX5_ways 56 = .ok (.invokestatic 251, 3) := by decide +kernel
theorem dX5_ways_59 : decode cX5_ways 59 = .ok (.ireturn, 1) := by decide +kernel
theorem dX5_count_0 : decode cX5_count 0 = .ok (.iload_n 1, 1) := by decide +kernel
theorem dX5_count_1 : decode cX5_count 1 = .ok (.tableswitch 194 0 14 #[75, 83, 91, 99, 104, 112, 120, 128, 136, 144, 152, 164, 176, 181, 189], 75) := by decide +kernel
theorem dX5_count_76 : decode cX5_count 76 = .ok (.aload_n 0, 1) := by decide +kernel
theorem dX5_count_77 : decode cX5_count 77 = .ok (.getfield 10, 3) := by decide +kernel
theorem dX5_count_80 : decode cX5_count 80 = .ok (.getfield 139, 3) := by decide +kernel
theorem dX5_count_83 : decode cX5_count 83 = .ok (.ireturn, 1) := by decide +kernel
theorem dX5_count_84 : decode cX5_count 84 = .ok (.aload_n 0, 1) := by decide +kernel
theorem dX5_count_85 : decode cX5_count 85 = .ok (.getfield 10, 3) := by decide +kernel
theorem dX5_count_88 : decode cX5_count 88 = .ok (.getfield 112, 3) := by decide +kernel
theorem dX5_count_91 : decode cX5_count 91 = .ok (.ireturn, 1) := by decide +kernel
theorem dX5_count_92 : decode cX5_count 92 = .ok (.aload_n 0, 1) := by decide +kernel
theorem dX5_count_93 : decode cX5_count 93 = .ok (.getfield 10, 3) := by decide +kernel
theorem dX5_count_96 : decode cX5_count 96 = .ok (.invokevirtual 255, 3) := by decide +kernel
theorem dX5_count_99 : decode cX5_count 99 = .ok (.ireturn, 1) := by decide +kernel
theorem dX5_count_100 : decode cX5_count 100 = .ok (.aload_n 0, 1) := by decide +kernel
theorem dX5_count_101 : decode cX5_count 101 = .ok (.invokevirtual 258, 3) := by decide +kernel
theorem dX5_count_104 : decode cX5_count 104 = .ok (.ireturn, 1) := by decide +kernel
theorem dX5_count_105 : decode cX5_count 105 = .ok (.aload_n 0, 1) := by decide +kernel
theorem dX5_count_106 : decode cX5_count 106 = .ok (.getfield 10, 3) := by decide +kernel
theorem dX5_count_109 : decode cX5_count 109 = .ok (.getfield 73, 3) := by decide +kernel
theorem dX5_count_112 : decode cX5_count 112 = .ok (.ireturn, 1) := by decide +kernel
theorem dX5_count_113 : decode cX5_count 113 = .ok (.aload_n 0, 1) := by decide +kernel
theorem dX5_count_114 : decode cX5_count 114 = .ok (.getfield 10, 3) := by decide +kernel
theorem dX5_count_117 : decode cX5_count 117 = .ok (.invokevirtual 91, 3) := by decide +kernel
theorem dX5_count_120 : decode cX5_count 120 = .ok (.ireturn, 1) := by decide +kernel
theorem dX5_count_121 : decode cX5_count 121 = .ok (.aload_n 0, 1) := by decide +kernel
theorem dX5_count_122 : decode cX5_count 122 = .ok (.getfield 10, 3) := by decide +kernel
theorem dX5_count_125 : decode cX5_count 125 = .ok (.invokevirtual 261, 3) := by decide +kernel
theorem dX5_count_128 : decode cX5_count 128 = .ok (.ireturn, 1) := by decide +kernel
theorem dX5_count_129 : decode cX5_count 129 = .ok (.aload_n 0, 1) := by decide +kernel
theorem dX5_count_130 : decode cX5_count 130 = .ok (.getfield 10, 3) := by decide +kernel
theorem dX5_count_133 : decode cX5_count 133 = .ok (.getfield 264, 3) := by decide +kernel
theorem dX5_count_136 : decode cX5_count 136 = .ok (.ireturn, 1) := by decide +kernel
theorem dX5_count_137 : decode cX5_count 137 = .ok (.aload_n 0, 1) := by decide +kernel
theorem dX5_count_138 : decode cX5_count 138 = .ok (.getfield 10, 3) := by decide +kernel
theorem dX5_count_141 : decode cX5_count 141 = .ok (.getfield 265, 3) := by decide +kernel
theorem dX5_count_144 : decode cX5_count 144 = .ok (.ireturn, 1) := by decide +kernel
theorem dX5_count_145 : decode cX5_count 145 = .ok (.aload_n 0, 1) := by decide +kernel
theorem dX5_count_146 : decode cX5_count 146 = .ok (.getfield 10, 3) := by decide +kernel
theorem dX5_count_149 : decode cX5_count 149 = .ok (.invokevirtual 268, 3) := by decide +kernel
theorem dX5_count_152 : decode cX5_count 152 = .ok (.ireturn, 1) := by decide +kernel
theorem dX5_count_153 : decode cX5_count 153 = .ok (.aload_n 0, 1) := by decide +kernel
theorem dX5_count_154 : decode cX5_count 154 = .ok (.getfield 10, 3) := by decide +kernel
theorem dX5_count_157 : decode cX5_count 157 = .ok (.getfield 67, 3) := by decide +kernel
theorem dX5_count_160 : decode cX5_count 160 = .ok (.iconst 0, 1) := by decide +kernel
theorem dX5_count_161 : decode cX5_count 161 = .ok (.invokestatic 59, 3) := by decide +kernel
theorem dX5_count_164 : decode cX5_count 164 = .ok (.ireturn, 1) := by decide +kernel
theorem dX5_count_165 : decode cX5_count 165 = .ok (.aload_n 0, 1) := by decide +kernel
theorem dX5_count_166 : decode cX5_count 166 = .ok (.getfield 10, 3) := by decide +kernel
theorem dX5_count_169 : decode cX5_count 169 = .ok (.getfield 67, 3) := by decide +kernel
theorem dX5_count_172 : decode cX5_count 172 = .ok (.iconst 1, 1) := by decide +kernel
theorem dX5_count_173 : decode cX5_count 173 = .ok (.invokestatic 59, 3) := by decide +kernel
theorem dX5_count_176 : decode cX5_count 176 = .ok (.ireturn, 1) := by decide +kernel
theorem dX5_count_177 : decode cX5_count 177 = .ok (.aload_n 0, 1) := by decide +kernel
theorem dX5_count_178 : decode cX5_count 178 = .ok (.invokevirtual 271, 3) := by decide +kernel
theorem dX5_count_181 : decode cX5_count 181 = .ok (.ireturn, 1) := by decide +kernel
theorem dX5_count_182 : decode cX5_count 182 = .ok (.aload_n 0, 1) := by decide +kernel
theorem dX5_count_183 : decode cX5_count 183 = .ok (.getfield 26, 3) := by decide +kernel
theorem dX5_count_186 : decode cX5_count 186 = .ok (.getfield 118, 3) := by decide +kernel
theorem dX5_count_189 : decode cX5_count 189 = .ok (.ireturn, 1) := by decide +kernel
theorem dX5_count_190 : decode cX5_count 190 = .ok (.aload_n 0, 1) := by decide +kernel
theorem dX5_count_191 : decode cX5_count 191 = .ok (.getfield 274, 3) := by decide +kernel
theorem dX5_count_194 : decode cX5_count 194 = .ok (.ireturn, 1) := by decide +kernel
theorem dX5_count_195 : decode cX5_count 195 = .ok (.iconst (-1), 1) := by decide +kernel
theorem dX5_count_196 : decode cX5_count 196 = .ok (.ireturn, 1) := by decide +kernel
theorem dX5_length_0 : decode cX5_length 0 = .ok (.aload_n 0, 1) := by decide +kernel
theorem dX5_length_1 : decode cX5_length 1 = .ok (.getfield 10, 3) := by decide +kernel
theorem dX5_length_4 : decode cX5_length 4 = .ok (.invokevirtual 277, 3) := by decide +kernel
theorem dX5_length_7 : decode cX5_length 7 = .ok (.istore_n 1, 1) := by decide +kernel
theorem dX5_length_8 : decode cX5_length 8 = .ok (.aload_n 0, 1) := by decide +kernel
theorem dX5_length_9 : decode cX5_length 9 = .ok (.getfield 10, 3) := by decide +kernel
theorem dX5_length_12 : decode cX5_length 12 = .ok (.invokevirtual 268, 3) := by decide +kernel
theorem dX5_length_15 : decode cX5_length 15 = .ok (.aload_n 0, 1) := by decide +kernel
theorem dX5_length_16 : decode cX5_length 16 = .ok (.getfield 10, 3) := by decide +kernel
theorem dX5_length_19 : decode cX5_length 19 = .ok (.getfield 112, 3) := by decide +kernel
theorem dX5_length_22 : decode cX5_length 22 = .ok (.iadd, 1) := by decide +kernel
theorem dX5_length_23 : decode cX5_length 23 = .ok (.istore_n 2, 1) := by decide +kernel
theorem dX5_length_24 : decode cX5_length 24 = .ok (.iload_n 2, 1) := by decide +kernel
theorem dX5_length_25 : decode cX5_length 25 = .ok (.ifCond .gt 5, 3) := by decide +kernel
theorem dX5_length_28 : decode cX5_length 28 = .ok (.dconst 0, 1) := by decide +kernel
theorem dX5_length_29 : decode cX5_length 29 = .ok (.dreturn, 1) := by decide +kernel
theorem dX5_length_30 : decode cX5_length 30 = .ok (.iload_n 1, 1) := by decide +kernel
theorem dX5_length_31 : decode cX5_length 31 = .ok (.i2d, 1) := by decide +kernel
theorem dX5_length_32 : decode cX5_length 32 = .ok (.iload_n 2, 1) := by decide +kernel
theorem dX5_length_33 : decode cX5_length 33 = .ok (.i2d, 1) := by decide +kernel
theorem dX5_length_34 : decode cX5_length 34 = .ok (.ddiv, 1) := by decide +kernel
theorem dX5_length_35 : decode cX5_length 35 = .ok (.dreturn, 1) := by decide +kernel
theorem dX5_ifRuled_0 : decode cX5_ifRuled 0 = .ok (.iload_n 1, 1) := by decide +kernel
theorem dX5_ifRuled_1 : decode cX5_ifRuled 1 = .ok (.iload_n 2, 1) := by decide +kernel
theorem dX5_ifRuled_2 : decode cX5_ifRuled 2 = .ok (.iload 4, 2) := by decide +kernel
theorem dX5_ifRuled_4 : decode cX5_ifRuled 4 = .ok (.invokestatic 70, 3) := by decide +kernel
theorem dX5_ifRuled_7 : decode cX5_ifRuled 7 = .ok (.ifCond .ne 5, 3) := by decide +kernel
theorem dX5_ifRuled_10 : decode cX5_ifRuled 10 = .ok (.iconst (-1), 1) := by decide +kernel
theorem dX5_ifRuled_11 : decode cX5_ifRuled 11 = .ok (.ireturn, 1) := by decide +kernel
theorem dX5_ifRuled_12 : decode cX5_ifRuled 12 = .ok (.iconst 0, 1) := by decide +kernel
theorem dX5_ifRuled_13 : decode cX5_ifRuled 13 = .ok (.istore 5, 2) := by decide +kernel
theorem dX5_ifRuled_15 : decode cX5_ifRuled 15 = .ok (.iconst 0, 1) := by decide +kernel
theorem dX5_ifRuled_16 : decode cX5_ifRuled 16 = .ok (.istore 6, 2) := by decide +kernel
theorem dX5_ifRuled_18 : decode cX5_ifRuled 18 = .ok (.iload 6, 2) := by decide +kernel
theorem dX5_ifRuled_20 : decode cX5_ifRuled 20 = .ok (.aload_n 0, 1) := by decide +kernel
theorem dX5_ifRuled_21 : decode cX5_ifRuled 21 = .ok (.getfield 10, 3) := by decide +kernel
theorem dX5_ifRuled_24 : decode cX5_ifRuled 24 = .ok (.getfield 112, 3) := by decide +kernel
theorem dX5_ifRuled_27 : decode cX5_ifRuled 27 = .ok (.if_icmp .ge 108, 3) := by decide +kernel
theorem dX5_ifRuled_30 : decode cX5_ifRuled 30 = .ok (.aload_n 0, 1) := by decide +kernel
theorem dX5_ifRuled_31 : decode cX5_ifRuled 31 = .ok (.getfield 10, 3) := by decide +kernel
theorem dX5_ifRuled_34 : decode cX5_ifRuled 34 = .ok (.iload 6, 2) := by decide +kernel
theorem dX5_ifRuled_36 : decode cX5_ifRuled 36 = .ok (.invokevirtual 121, 3) := by decide +kernel
theorem dX5_ifRuled_39 : decode cX5_ifRuled 39 = .ok (.astore 7, 2) := by decide +kernel
theorem dX5_ifRuled_41 : decode cX5_ifRuled 41 = .ok (.aload 7, 2) := by decide +kernel
theorem dX5_ifRuled_43 : decode cX5_ifRuled 43 = .ok (.ifnull 86, 3) := by decide +kernel
theorem dX5_ifRuled_46 : decode cX5_ifRuled 46 = .ok (.iconst 0, 1) := by decide +kernel
theorem dX5_ifRuled_47 : decode cX5_ifRuled 47 = .ok (.istore 8, 2) := by decide +kernel
theorem dX5_ifRuled_49 : decode cX5_ifRuled 49 = .ok (.iload 8, 2) := by decide +kernel
theorem dX5_ifRuled_51 : decode cX5_ifRuled 51 = .ok (.aload 7, 2) := by decide +kernel
theorem dX5_ifRuled_53 : decode cX5_ifRuled 53 = .ok (.getfield 174, 3) := by decide +kernel
theorem dX5_ifRuled_56 : decode cX5_ifRuled 56 = .ok (.iconst 1, 1) := by decide +kernel
theorem dX5_ifRuled_57 : decode cX5_ifRuled 57 = .ok (.isub, 1) := by decide +kernel
theorem dX5_ifRuled_58 : decode cX5_ifRuled 58 = .ok (.if_icmp .ge 71, 3) := by decide +kernel
theorem dX5_ifRuled_61 : decode cX5_ifRuled 61 = .ok (.aload 7, 2) := by decide +kernel
theorem dX5_ifRuled_63 : decode cX5_ifRuled 63 = .ok (.iload 8, 2) := by decide +kernel
theorem dX5_ifRuled_65 : decode cX5_ifRuled 65 = .ok (.invokevirtual 280, 3) := by decide +kernel
theorem dX5_ifRuled_68 : decode cX5_ifRuled 68 = .ok (.iload_n 1, 1) := by decide +kernel
theorem dX5_ifRuled_69 : decode cX5_ifRuled 69 = .ok (.if_icmp .ne 54, 3) := by decide +kernel
theorem dX5_ifRuled_72 : decode cX5_ifRuled 72 = .ok (.aload 7, 2) := by decide +kernel
theorem dX5_ifRuled_74 : decode cX5_ifRuled 74 = .ok (.iload 8, 2) := by decide +kernel
theorem dX5_ifRuled_76 : decode cX5_ifRuled 76 = .ok (.iconst 1, 1) := by decide +kernel
theorem dX5_ifRuled_77 : decode cX5_ifRuled 77 = .ok (.iadd, 1) := by decide +kernel
theorem dX5_ifRuled_78 : decode cX5_ifRuled 78 = .ok (.invokevirtual 280, 3) := by decide +kernel
theorem dX5_ifRuled_81 : decode cX5_ifRuled 81 = .ok (.iload_n 2, 1) := by decide +kernel
theorem dX5_ifRuled_82 : decode cX5_ifRuled 82 = .ok (.if_icmp .ne 41, 3) := by decide +kernel
theorem dX5_ifRuled_85 : decode cX5_ifRuled 85 = .ok (.aload 7, 2) := by decide +kernel
theorem dX5_ifRuled_87 : decode cX5_ifRuled 87 = .ok (.iload 8, 2) := by decide +kernel
theorem dX5_ifRuled_89 : decode cX5_ifRuled 89 = .ok (.invokevirtual 199, 3) := by decide +kernel
theorem dX5_ifRuled_92 : decode cX5_ifRuled 92 = .ok (.iload_n 3, 1) := by decide +kernel
theorem dX5_ifRuled_93 : decode cX5_ifRuled 93 = .ok (.if_icmp .ne 7, 3) := by decide +kernel
theorem dX5_ifRuled_96 : decode cX5_ifRuled 96 = .ok (.iconst 0, 1) := by decide +kernel
theorem dX5_ifRuled_97 : decode cX5_ifRuled 97 = .ok (.goto 5, 3) := by decide +kernel
theorem dX5_ifRuled_100 : decode cX5_ifRuled 100 = .ok (.iload 4, 2) := by decide +kernel
theorem dX5_ifRuled_102 : decode cX5_ifRuled 102 = .ok (.istore 9, 2) := by decide +kernel
theorem dX5_ifRuled_104 : decode cX5_ifRuled 104 = .ok (.iload 5, 2) := by decide +kernel
theorem dX5_ifRuled_106 : decode cX5_ifRuled 106 = .ok (.iload 9, 2) := by decide +kernel
theorem dX5_ifRuled_108 : decode cX5_ifRuled 108 = .ok (.aload_n 0, 1) := by decide +kernel
theorem dX5_ifRuled_109 : decode cX5_ifRuled 109 = .ok (.getfield 10, 3) := by decide +kernel
theorem dX5_ifRuled_112 : decode cX5_ifRuled 112 = .ok (.aload 7, 2) := by decide +kernel
theorem dX5_ifRuled_114 : decode cX5_ifRuled 114 = .ok (.iload 8, 2) := by decide +kernel
theorem dX5_ifRuled_116 : decode cX5_ifRuled 116 = .ok (.invokevirtual 205, 3) := by decide +kernel
theorem dX5_ifRuled_119 : decode cX5_ifRuled 119 = .ok (.isub, 1) := by decide +kernel
theorem dX5_ifRuled_120 : decode cX5_ifRuled 120 = .ok (.iadd, 1) := by decide +kernel
theorem dX5_ifRuled_121 : decode cX5_ifRuled 121 = .ok (.istore 5, 2) := by decide +kernel
theorem dX5_ifRuled_123 : decode cX5_ifRuled 123 = .ok (.iinc 8 1, 3) := by decide +kernel
theorem dX5_ifRuled_126 : decode cX5_ifRuled 126 = .ok (.goto (-77), 3) := by decide +kernel
theorem dX5_ifRuled_129 : decode cX5_ifRuled 129 = .ok (.iinc 6 1, 3) := by decide +kernel
theorem dX5_ifRuled_132 : decode cX5_ifRuled 132 = .ok (.goto (-114), 3) := by decide +kernel
theorem dX5_ifRuled_135 : decode cX5_ifRuled 135 = .ok (.sipush 1000, 3) := by decide +kernel
theorem dX5_ifRuled_138 : decode cX5_ifRuled 138 = .ok (.iload 5, 2) := by decide +kernel
theorem dX5_ifRuled_140 : decode cX5_ifRuled 140 = .ok (.iadd, 1) := by decide +kernel
theorem dX5_ifRuled_141 : decode cX5_ifRuled 141 = .ok (.ireturn, 1) := by decide +kernel
theorem dX5_bestSuit_0 : decode cX5_bestSuit 0 = .ok (.aload_n 0, 1) := by decide +kernel
theorem dX5_bestSuit_1 : decode cX5_bestSuit 1 = .ok (.getfield 10, 3) := by decide +kernel
theorem dX5_bestSuit_4 : decode cX5_bestSuit 4 = .ok (.iload_n 1, 1) := by decide +kernel
theorem dX5_bestSuit_5 : decode cX5_bestSuit 5 = .ok (.invokevirtual 121, 3) := by decide +kernel
theorem dX5_bestSuit_8 : decode cX5_bestSuit 8 = .ok (.astore_n 2, 1) := by decide +kernel
theorem dX5_bestSuit_9 : decode cX5_bestSuit 9 = .ok (.aload_n 2, 1) := by decide +kernel
theorem dX5_bestSuit_10 : decode cX5_bestSuit 10 = .ok (.ifnonnull 5, 3) := by decide +kernel
theorem dX5_bestSuit_13 : decode cX5_bestSuit 13 = .ok (.iconst (-1), 1) := by decide +kernel
theorem dX5_bestSuit_14 : decode cX5_bestSuit 14 = .ok (.ireturn, 1) := by decide +kernel
theorem dX5_bestSuit_15 : decode cX5_bestSuit 15 = .ok (.aload_n 0, 1) := by decide +kernel
theorem dX5_bestSuit_16 : decode cX5_bestSuit 16 = .ok (.getfield 40, 3) := by decide +kernel
theorem dX5_bestSuit_19 : decode cX5_bestSuit 19 = .ok (.aload_n 0, 1) := by decide +kernel
theorem dX5_bestSuit_20 : decode cX5_bestSuit 20 = .ok (.getfield 10, 3) := by decide +kernel
theorem dX5_bestSuit_23 : decode cX5_bestSuit 23 = .ok (.aload_n 2, 1) := by decide +kernel
theorem dX5_bestSuit_24 : decode cX5_bestSuit 24 = .ok (.invokevirtual 170, 3) := by decide +kernel
theorem dX5_bestSuit_27 : decode cX5_bestSuit 27 = .ok (.bipush (-4), 2) := by decide +kernel
theorem dX5_bestSuit_29 : decode cX5_bestSuit 29 = .ok (.istore_n 3, 1) := by decide +kernel
theorem dX5_bestSuit_30 : decode cX5_bestSuit 30 = .ok (.iconst 0, 1) := by decide +kernel
theorem dX5_bestSuit_31 : decode cX5_bestSuit 31 = .ok (.istore 4, 2) := by decide +kernel
theorem dX5_bestSuit_33 : decode cX5_bestSuit 33 = .ok (.iconst 0, 1) := by decide +kernel
theorem dX5_bestSuit_34 : decode cX5_bestSuit 34 = .ok (.istore 5, 2) := by decide +kernel
theorem dX5_bestSuit_36 : decode cX5_bestSuit 36 = .ok (.iload 5, 2) := by decide +kernel
theorem dX5_bestSuit_38 : decode cX5_bestSuit 38 = .ok (.aload_n 2, 1) := by decide +kernel
theorem dX5_bestSuit_39 : decode cX5_bestSuit 39 = .ok (.getfield 174, 3) := by decide +kernel
theorem dX5_bestSuit_42 : decode cX5_bestSuit 42 = .ok (.iconst 1, 1) := by decide +kernel
theorem dX5_bestSuit_43 : decode cX5_bestSuit 43 = .ok (.isub, 1) := by decide +kernel
theorem dX5_bestSuit_44 : decode cX5_bestSuit 44 = .ok (.if_icmp .ge 54, 3) := by decide +kernel
theorem dX5_bestSuit_47 : decode cX5_bestSuit 47 = .ok (.aload_n 0, 1) := by decide +kernel
theorem dX5_bestSuit_48 : decode cX5_bestSuit 48 = .ok (.getfield 40, 3) := by decide +kernel
theorem dX5_bestSuit_51 : decode cX5_bestSuit 51 = .ok (.aload_n 2, 1) := by decide +kernel
theorem dX5_bestSuit_52 : decode cX5_bestSuit 52 = .ok (.iload 5, 2) := by decide +kernel
theorem dX5_bestSuit_54 : decode cX5_bestSuit 54 = .ok (.invokevirtual 208, 3) := by decide +kernel
theorem dX5_bestSuit_57 : decode cX5_bestSuit 57 = .ok (.invokevirtual 189, 3) := by decide +kernel
theorem dX5_bestSuit_60 : decode cX5_bestSuit 60 = .ok (.istore 6, 2) := by decide +kernel
theorem dX5_bestSuit_62 : decode cX5_bestSuit 62 = .ok (.iload_n 3, 1) := by decide +kernel
theorem dX5_bestSuit_63 : decode cX5_bestSuit 63 = .ok (.bipush (-4), 2) := by decide +kernel
theorem dX5_bestSuit_65 : decode cX5_bestSuit 65 = .ok (.if_icmp .eq 10, 3) := by decide +kernel
theorem dX5_bestSuit_68 : decode cX5_bestSuit 68 = .ok (.iload 6, 2) := by decide +kernel
theorem dX5_bestSuit_70 : decode cX5_bestSuit 70 = .ok (.iload 4, 2) := by decide +kernel
theorem dX5_bestSuit_72 : decode cX5_bestSuit 72 = .ok (.if_icmp .ge 20, 3) := by decide +kernel
theorem dX5_bestSuit_75 : decode cX5_bestSuit 75 = .ok (.aload_n 0, 1) := by decide +kernel
theorem dX5_bestSuit_76 : decode cX5_bestSuit 76 = .ok (.aload_n 2, 1) := by decide +kernel
theorem dX5_bestSuit_77 : decode cX5_bestSuit 77 = .ok (.iload 5, 2) := by decide +kernel
theorem dX5_bestSuit_79 : decode cX5_bestSuit 79 = .ok (.invokevirtual 238, 3) := by decide +kernel
theorem dX5_bestSuit_82 : decode cX5_bestSuit 82 = .ok (.ifCond .ne 10, 3) := by decide +kernel
theorem dX5_bestSuit_85 : decode cX5_bestSuit 85 = .ok (.iload 5, 2) := by decide +kernel
theorem dX5_bestSuit_87 : decode cX5_bestSuit 87 = .ok (.istore_n 3, 1) := by decide +kernel
theorem dX5_bestSuit_88 : decode cX5_bestSuit 88 = .ok (.iload 6, 2) := by decide +kernel
theorem dX5_bestSuit_90 : decode cX5_bestSuit 90 = .ok (.istore 4, 2) := by decide +kernel
theorem dX5_bestSuit_92 : decode cX5_bestSuit 92 = .ok (.iinc 5 1, 3) := by decide +kernel
theorem dX5_bestSuit_95 : decode cX5_bestSuit 95 = .ok (.goto (-59), 3) := by decide +kernel
theorem dX5_bestSuit_98 : decode cX5_bestSuit 98 = .ok (.iload_n 3, 1) := by decide +kernel
theorem dX5_bestSuit_99 : decode cX5_bestSuit 99 = .ok (.ireturn, 1) := by decide +kernel
theorem dX5_undo_0 : decode cX5_undo 0 = .ok (.aload_n 0, 1) := by decide +kernel
theorem dX5_undo_1 : decode cX5_undo 1 = .ok (.aload_n 0, 1) := by decide +kernel
theorem dX5_undo_2 : decode cX5_undo 2 = .ok (.getfield 274, 3) := by decide +kernel
theorem dX5_undo_5 : decode cX5_undo 5 = .ok (.iconst 1, 1) := by decide +kernel
theorem dX5_undo_6 : decode cX5_undo 6 = .ok (.isub, 1) := by decide +kernel
theorem dX5_undo_7 : decode cX5_undo 7 = .ok (.invokevirtual 283, 3) := by decide +kernel
theorem dX5_undo_10 : decode cX5_undo 10 = .ok (.astore_n 1, 1) := by decide +kernel
theorem dX5_undo_11 : decode cX5_undo 11 = .ok (.aload_n 1, 1) := by decide +kernel
theorem dX5_undo_12 : decode cX5_undo 12 = .ok (.ifnonnull 6, 3) := by decide +kernel
theorem dX5_undo_15 : decode cX5_undo 15 = .ok (.bipush (-2), 2) := by decide +kernel
theorem dX5_undo_17 : decode cX5_undo 17 = .ok (.ireturn, 1) := by decide +kernel
theorem dX5_undo_18 : decode cX5_undo 18 = .ok (.aload_n 0, 1) := by decide +kernel
theorem dX5_undo_19 : decode cX5_undo 19 = .ok (.getfield 10, 3) := by decide +kernel
theorem dX5_undo_22 : decode cX5_undo 22 = .ok (.aload_n 1, 1) := by decide +kernel
theorem dX5_undo_23 : decode cX5_undo 23 = .ok (.invokevirtual 287, 3) := by decide +kernel
theorem dX5_undo_26 : decode cX5_undo 26 = .ok (.aload_n 0, 1) := by decide +kernel
theorem dX5_undo_27 : decode cX5_undo 27 = .ok (.dup, 1) := by decide +kernel
theorem dX5_undo_28 : decode cX5_undo 28 = .ok (.getfield 274, 3) := by decide +kernel
theorem dX5_undo_31 : decode cX5_undo 31 = .ok (.iconst 1, 1) := by decide +kernel
theorem dX5_undo_32 : decode cX5_undo 32 = .ok (.isub, 1) := by decide +kernel
theorem dX5_undo_33 : decode cX5_undo 33 = .ok (.putfield 274, 3) := by decide +kernel
theorem dX5_undo_36 : decode cX5_undo 36 = .ok (.aload_n 0, 1) := by decide +kernel
theorem dX5_undo_37 : decode cX5_undo 37 = .ok (.getfield 274, 3) := by decide +kernel
theorem dX5_undo_40 : decode cX5_undo 40 = .ok (.ireturn, 1) := by decide +kernel
theorem dX5_save_0 : decode cX5_save 0 = .ok (.aload_n 0, 1) := by decide +kernel
theorem dX5_save_1 : decode cX5_save 1 = .ok (.getfield 16, 3) := by decide +kernel
theorem dX5_save_4 : decode cX5_save 4 = .ok (.aload_n 0, 1) := by decide +kernel
theorem dX5_save_5 : decode cX5_save 5 = .ok (.getfield 10, 3) := by decide +kernel
theorem dX5_save_8 : decode cX5_save 8 = .ok (.invokevirtual 287, 3) := by decide +kernel
theorem dX5_save_11 : decode cX5_save 11 = .ok (.aload_n 0, 1) := by decide +kernel
theorem dX5_save_12 : decode cX5_save 12 = .ok (.iconst 1, 1) := by decide +kernel
theorem dX5_save_13 : decode cX5_save 13 = .ok (.putfield 291, 3) := by decide +kernel
theorem dX5_save_16 : decode cX5_save 16 = .ok (.aload_n 0, 1) := by decide +kernel
theorem dX5_save_17 : decode cX5_save 17 = .ok (.getfield 10, 3) := by decide +kernel
theorem dX5_save_20 : decode cX5_save 20 = .ok (.getfield 112, 3) := by decide +kernel
theorem dX5_save_23 : decode cX5_save 23 = .ok (.ireturn, 1) := by decide +kernel
theorem dX5_restore_0 : decode cX5_restore 0 = .ok (.aload_n 0, 1) := by decide +kernel
theorem dX5_restore_1 : decode cX5_restore 1 = .ok (.getfield 291, 3) := by decide +kernel
theorem dX5_restore_4 : decode cX5_restore 4 = .ok (.ifCond .ne 6, 3) := by decide +kernel
theorem dX5_restore_7 : decode cX5_restore 7 = .ok (.bipush (-2), 2) := by decide +kernel
theorem dX5_restore_9 : decode cX5_restore 9 = .ok (.ireturn, 1) := by decide +kernel
theorem dX5_restore_10 : decode cX5_restore 10 = .ok (.aload_n 0, 1) := by decide +kernel
theorem dX5_restore_11 : decode cX5_restore 11 = .ok (.invokevirtual 52, 3) := by decide +kernel
theorem dX5_restore_14 : decode cX5_restore 14 = .ok (.aload_n 0, 1) := by decide +kernel
theorem dX5_restore_15 : decode cX5_restore 15 = .ok (.getfield 10, 3) := by decide +kernel
theorem dX5_restore_18 : decode cX5_restore 18 = .ok (.aload_n 0, 1) := by decide +kernel
theorem dX5_restore_19 : decode cX5_restore 19 = .ok (.getfield 16, 3) := by decide +kernel
theorem dX5_restore_22 : decode cX5_restore 22 = .ok (.invokevirtual 287, 3) := by decide +kernel
theorem dX5_restore_25 : decode cX5_restore 25 = .ok (.aload_n 0, 1) := by decide +kernel
theorem dX5_restore_26 : decode cX5_restore 26 = .ok (.getfield 10, 3) := by decide +kernel
theorem dX5_restore_29 : decode cX5_restore 29 = .ok (.getfield 112, 3) := by decide +kernel
theorem dX5_restore_32 : decode cX5_restore 32 = .ok (.ireturn, 1) := by decide +kernel
theorem dX5_isWithin_0 : decode cX5_isWithin 0 = .ok (.iload_n 0, 1) := by decide +kernel
theorem dX5_isWithin_1 : decode cX5_isWithin 1 = .ok (.iload_n 1, 1) := by decide +kernel
theorem dX5_isWithin_2 : decode cX5_isWithin 2 = .ok (.if_icmp .lt 12, 3) := by decide +kernel
theorem dX5_isWithin_5 : decode cX5_isWithin 5 = .ok (.iload_n 0, 1) := by decide +kernel
theorem dX5_isWithin_6 : decode cX5_isWithin 6 = .ok (.iload_n 2, 1) := by decide +kernel
theorem dX5_isWithin_7 : decode cX5_isWithin 7 = .ok (.if_icmp .gt 7, 3) := by decide +kernel
theorem dX5_isWithin_10 : decode cX5_isWithin 10 = .ok (.iconst 1, 1) := by decide +kernel
theorem dX5_isWithin_11 : decode cX5_isWithin 11 = .ok (.goto 4, 3) := by decide +kernel
theorem dX5_isWithin_14 : decode cX5_isWithin 14 = .ok (.iconst 0, 1) := by decide +kernel
theorem dX5_isWithin_15 : decode cX5_isWithin 15 = .ok (.ireturn, 1) := by decide +kernel
theorem dX5_isKind_0 : decode cX5_isKind 0 = .ok (.iload_n 0, 1) := by decide +kernel
theorem dX5_isKind_1 : decode cX5_isKind 1 = .ok (.iconst 0, 1) := by decide +kernel
theorem dX5_isKind_2 : decode cX5_isKind 2 = .ok (.iconst 5, 1) := by decide +kernel
theorem dX5_isKind_3 : decode cX5_isKind 3 = .ok (.invokestatic 48, 3) := by decide +kernel
theorem dX5_isKind_6 : decode cX5_isKind 6 = .ok (.ireturn, 1) := by decide +kernel
theorem dX5_isAboutKinds_0 : decode cX5_isAboutKinds 0 = .ok (.iload_n 0, 1) := by decide +kernel
theorem dX5_isAboutKinds_1 : decode cX5_isAboutKinds 1 = .ok (.invokestatic 44, 3) := by decide +kernel
theorem dX5_isAboutKinds_4 : decode cX5_isAboutKinds 4 = .ok (.ifCond .eq 24, 3) := by decide +kernel
theorem dX5_isAboutKinds_7 : decode cX5_isAboutKinds 7 = .ok (.iload_n 1, 1) := by decide +kernel
theorem dX5_isAboutKinds_8 : decode cX5_isAboutKinds 8 = .ok (.invokestatic 44, 3) := by decide +kernel
theorem dX5_isAboutKinds_11 : decode cX5_isAboutKinds 11 = .ok (.ifCond .eq 17, 3) := by decide +kernel
theorem dX5_isAboutKinds_14 : decode cX5_isAboutKinds 14 = .ok (.iload_n 2, 1) := by decide +kernel
theorem dX5_isAboutKinds_15 : decode cX5_isAboutKinds 15 = .ok (.iconst 1, 1) := by decide +kernel
theorem dX5_isAboutKinds_16 : decode cX5_isAboutKinds 16 = .ok (.bipush 20, 2) := by decide +kernel
theorem dX5_isAboutKinds_18 : decode cX5_isAboutKinds 18 = .ok (.invokestatic 48, 3) := by decide +kernel
theorem dX5_isAboutKinds_21 : decode cX5_isAboutKinds 21 = .ok (.ifCond .eq 7, 3) := by decide +kernel
theorem dX5_isAboutKinds_24 : decode cX5_isAboutKinds 24 = .ok (.iconst 1, 1) := by decide +kernel
theorem dX5_isAboutKinds_25 : decode cX5_isAboutKinds 25 = .ok (.goto 4, 3) := by decide +kernel
theorem dX5_isAboutKinds_28 : decode cX5_isAboutKinds 28 = .ok (.iconst 0, 1) := by decide +kernel
theorem dX5_isAboutKinds_29 : decode cX5_isAboutKinds 29 = .ok (.ireturn, 1) := by decide +kernel
theorem dX5_at_0 : decode cX5_at 0 = .ok (.iload_n 1, 1) := by decide +kernel
theorem dX5_at_1 : decode cX5_at 1 = .ok (.ifCond .lt 15, 3) := by decide +kernel
theorem dX5_at_4 : decode cX5_at 4 = .ok (.iload_n 1, 1) := by decide +kernel
theorem dX5_at_5 : decode cX5_at 5 = .ok (.aload_n 0, 1) := by decide +kernel
theorem dX5_at_6 : decode cX5_at 6 = .ok (.arraylength, 1) := by decide +kernel
theorem dX5_at_7 : decode cX5_at 7 = .ok (.if_icmp .ge 9, 3) := by decide +kernel
theorem dX5_at_10 : decode cX5_at 10 = .ok (.aload_n 0, 1) := by decide +kernel
theorem dX5_at_11 : decode cX5_at 11 = .ok (.iload_n 1, 1) := by decide +kernel
theorem dX5_at_12 : decode cX5_at 12 = .ok (.iaload, 1) := by decide +kernel
theorem dX5_at_13 : decode cX5_at 13 = .ok (.goto 4, 3) := by decide +kernel
theorem dX5_at_16 : decode cX5_at 16 = .ok (.iconst 0, 1) := by decide +kernel
theorem dX5_at_17 : decode cX5_at 17 = .ok (.ireturn, 1) := by decide +kernel
theorem dX5_put_0 : decode cX5_put 0 = .ok (.iload_n 1, 1) := by decide +kernel
theorem dX5_put_1 : decode cX5_put 1 = .ok (.ifCond .lt 13, 3) := by decide +kernel
theorem dX5_put_4 : decode cX5_put 4 = .ok (.iload_n 1, 1) := by decide +kernel
theorem dX5_put_5 : decode cX5_put 5 = .ok (.aload_n 0, 1) := by decide +kernel
theorem dX5_put_6 : decode cX5_put 6 = .ok (.arraylength, 1) := by decide +kernel
theorem dX5_put_7 : decode cX5_put 7 = .ok (.if_icmp .ge 7, 3) := by decide +kernel
theorem dX5_put_10 : decode cX5_put 10 = .ok (.aload_n 0, 1) := by decide +kernel
theorem dX5_put_11 : decode cX5_put 11 = .ok (.iload_n 1, 1) := by decide +kernel
theorem dX5_put_12 : decode cX5_put 12 = .ok (.iload_n 2, 1) := by decide +kernel
theorem dX5_put_13 : decode cX5_put 13 = .ok (.iastore, 1) := by decide +kernel
theorem dX5_put_14 : decode cX5_put 14 = .ok (.return_, 1) := by decide +kernel
theorem dX5_stateAt_0 : decode cX5_stateAt 0 = .ok (.iload_n 1, 1) := by decide +kernel
theorem dX5_stateAt_1 : decode cX5_stateAt 1 = .ok (.ifCond .lt 29, 3) := by decide +kernel
theorem dX5_stateAt_4 : decode cX5_stateAt 4 = .ok (.iload_n 1, 1) := by decide +kernel
theorem dX5_stateAt_5 : decode cX5_stateAt 5 = .ok (.aload_n 0, 1) := by decide +kernel
theorem dX5_stateAt_6 : decode cX5_stateAt 6 = .ok (.getfield 274, 3) := by decide +kernel
theorem dX5_stateAt_9 : decode cX5_stateAt 9 = .ok (.if_icmp .ge 21, 3) := by decide +kernel
theorem dX5_stateAt_12 : decode cX5_stateAt 12 = .ok (.iload_n 1, 1) := by decide +kernel
theorem dX5_stateAt_13 : decode cX5_stateAt 13 = .ok (.aload_n 0, 1) := by decide +kernel
theorem dX5_stateAt_14 : decode cX5_stateAt 14 = .ok (.getfield 19, 3) := by decide +kernel
theorem dX5_stateAt_17 : decode cX5_stateAt 17 = .ok (.arraylength, 1) := by decide +kernel
theorem dX5_stateAt_18 : decode cX5_stateAt 18 = .ok (.if_icmp .ge 12, 3) := by decide +kernel
theorem dX5_stateAt_21 : decode cX5_stateAt 21 = .ok (.aload_n 0, 1) := by decide +kernel
theorem dX5_stateAt_22 : decode cX5_stateAt 22 = .ok (.getfield 19, 3) := by decide +kernel
theorem dX5_stateAt_25 : decode cX5_stateAt 25 = .ok (.iload_n 1, 1) := by decide +kernel
theorem dX5_stateAt_26 : decode cX5_stateAt 26 = .ok (.aaload, 1) := by decide +kernel
theorem dX5_stateAt_27 : decode cX5_stateAt 27 = .ok (.goto 4, 3) := by decide +kernel
theorem dX5_stateAt_30 : decode cX5_stateAt 30 = .ok (.aconst_null, 1) := by decide +kernel
theorem dX5_stateAt_31 : decode cX5_stateAt 31 = .ok (.areturn, 1) := by decide +kernel
theorem dX5_keepState_0 : decode cX5_keepState 0 = .ok (.aload_n 0, 1) := by decide +kernel
theorem dX5_keepState_1 : decode cX5_keepState 1 = .ok (.getfield 274, 3) := by decide +kernel
theorem dX5_keepState_4 : decode cX5_keepState 4 = .ok (.aload_n 0, 1) := by decide +kernel
theorem dX5_keepState_5 : decode cX5_keepState 5 = .ok (.getfield 19, 3) := by decide +kernel
theorem dX5_keepState_8 : decode cX5_keepState 8 = .ok (.arraylength, 1) := by decide +kernel
theorem dX5_keepState_9 : decode cX5_keepState 9 = .ok (.if_icmp .lt 7, 3) := by decide +kernel
theorem dX5_keepState_12 : decode cX5_keepState 12 = .ok (.aload_n 0, 1) := by decide +kernel
theorem dX5_keepState_13 : decode cX5_keepState 13 = .ok (.invokevirtual 294, 3) := by decide +kernel
theorem dX5_keepState_16 : decode cX5_keepState 16 = .ok (.aload_n 0, 1) := by decide +kernel
theorem dX5_keepState_17 : decode cX5_keepState 17 = .ok (.getfield 274, 3) := by decide +kernel
theorem dX5_keepState_20 : decode cX5_keepState 20 = .ok (.ifCond .lt 53, 3) := by decide +kernel
theorem dX5_keepState_23 : decode cX5_keepState 23 = .ok (.aload_n 0, 1) := by decide +kernel
theorem dX5_keepState_24 : decode cX5_keepState 24 = .ok (.getfield 274, 3) := by decide +kernel
theorem dX5_keepState_27 : decode cX5_keepState 27 = .ok (.aload_n 0, 1) := by decide +kernel
theorem dX5_keepState_28 : decode cX5_keepState 28 = .ok (.getfield 19, 3) := by decide +kernel
theorem dX5_keepState_31 : decode cX5_keepState 31 = .ok (.arraylength, 1) := by decide +kernel
theorem dX5_keepState_32 : decode cX5_keepState 32 = .ok (.if_icmp .ge 41, 3) := by decide +kernel
theorem dX5_keepState_35 : decode cX5_keepState 35 = .ok (.aload_n 0, 1) := by decide +kernel
theorem dX5_keepState_36 : decode cX5_keepState 36 = .ok (.getfield 19, 3) := by decide +kernel
theorem dX5_keepState_39 : decode cX5_keepState 39 = .ok (.aload_n 0, 1) := by decide +kernel
theorem dX5_keepState_40 : decode cX5_keepState 40 = .ok (.getfield 274, 3) := by decide +kernel
theorem dX5_keepState_43 : decode cX5_keepState 43 = .ok (.aaload, 1) := by decide +kernel
theorem dX5_keepState_44 : decode cX5_keepState 44 = .ok (.ifnull 29, 3) := by decide +kernel
theorem dX5_keepState_47 : decode cX5_keepState 47 = .ok (.aload_n 0, 1) := by decide +kernel
theorem dX5_keepState_48 : decode cX5_keepState 48 = .ok (.getfield 19, 3) := by decide +kernel
theorem dX5_keepState_51 : decode cX5_keepState 51 = .ok (.aload_n 0, 1) := by decide +kernel
theorem dX5_keepState_52 : decode cX5_keepState 52 = .ok (.getfield 274, 3) := by decide +kernel
theorem dX5_keepState_55 : decode cX5_keepState 55 = .ok (.aaload, 1) := by decide +kernel
theorem dX5_keepState_56 : decode cX5_keepState 56 = .ok (.aload_n 0, 1) := by decide +kernel
theorem dX5_keepState_57 : decode cX5_keepState 57 = .ok (.getfield 10, 3) := by decide +kernel
theorem dX5_keepState_60 : decode cX5_keepState 60 = .ok (.invokevirtual 287, 3) := by decide +kernel
theorem dX5_keepState_63 : decode cX5_keepState 63 = .ok (.aload_n 0, 1) := by decide +kernel
theorem dX5_keepState_64 : decode cX5_keepState 64 = .ok (.dup, 1) := by decide +kernel
theorem dX5_keepState_65 : decode cX5_keepState 65 = .ok (.getfield 274, 3) := by decide +kernel
theorem dX5_keepState_68 : decode cX5_keepState 68 = .ok (.iconst 1, 1) := by decide +kernel
theorem dX5_keepState_69 : decode cX5_keepState 69 = .ok (.iadd, 1) := by decide +kernel
theorem dX5_keepState_70 : decode cX5_keepState 70 = .ok (.putfield 274, 3) := by decide +kernel
theorem dX5_keepState_73 : decode cX5_keepState 73 = .ok (.return_, 1) := by decide +kernel
theorem dX5_forgetOldest_0 : decode cX5_forgetOldest 0 = .ok (.aload_n 0, 1) := by decide +kernel
theorem dX5_forgetOldest_1 : decode cX5_forgetOldest 1 = .ok (.getfield 19, 3) := by decide +kernel
theorem dX5_forgetOldest_4 : decode cX5_forgetOldest 4 = .ok (.arraylength, 1) := by decide +kernel
theorem dX5_forgetOldest_5 : decode cX5_forgetOldest 5 = .ok (.ifCond .ne 4, 3) := by decide +kernel
theorem dX5_forgetOldest_8 : decode cX5_forgetOldest 8 = .ok (.return_, 1) := by decide +kernel
theorem dX5_forgetOldest_9 : decode cX5_forgetOldest 9 = .ok (.aload_n 0, 1) := by decide +kernel
theorem dX5_forgetOldest_10 : decode cX5_forgetOldest 10 = .ok (.getfield 19, 3) := by decide +kernel
theorem dX5_forgetOldest_13 : decode cX5_forgetOldest 13 = .ok (.iconst 0, 1) := by decide +kernel
theorem dX5_forgetOldest_14 : decode cX5_forgetOldest 14 = .ok (.aaload, 1) := by decide +kernel
theorem dX5_forgetOldest_15 : decode cX5_forgetOldest 15 = .ok (.astore_n 1, 1) := by decide +kernel
theorem dX5_forgetOldest_16 : decode cX5_forgetOldest 16 = .ok (.iconst 1, 1) := by decide +kernel
theorem dX5_forgetOldest_17 : decode cX5_forgetOldest 17 = .ok (.istore_n 2, 1) := by decide +kernel
theorem dX5_forgetOldest_18 : decode cX5_forgetOldest 18 = .ok (.iload_n 2, 1) := by decide +kernel
theorem dX5_forgetOldest_19 : decode cX5_forgetOldest 19 = .ok (.aload_n 0, 1) := by decide +kernel
theorem dX5_forgetOldest_20 : decode cX5_forgetOldest 20 = .ok (.getfield 19, 3) := by decide +kernel
theorem dX5_forgetOldest_23 : decode cX5_forgetOldest 23 = .ok (.arraylength, 1) := by decide +kernel
theorem dX5_forgetOldest_24 : decode cX5_forgetOldest 24 = .ok (.if_icmp .ge 23, 3) := by decide +kernel
theorem dX5_forgetOldest_27 : decode cX5_forgetOldest 27 = .ok (.aload_n 0, 1) := by decide +kernel
theorem dX5_forgetOldest_28 : decode cX5_forgetOldest 28 = .ok (.getfield 19, 3) := by decide +kernel
theorem dX5_forgetOldest_31 : decode cX5_forgetOldest 31 = .ok (.iload_n 2, 1) := by decide +kernel
theorem dX5_forgetOldest_32 : decode cX5_forgetOldest 32 = .ok (.iconst 1, 1) := by decide +kernel
theorem dX5_forgetOldest_33 : decode cX5_forgetOldest 33 = .ok (.isub, 1) := by decide +kernel
theorem dX5_forgetOldest_34 : decode cX5_forgetOldest 34 = .ok (.aload_n 0, 1) := by decide +kernel
theorem dX5_forgetOldest_35 : decode cX5_forgetOldest 35 = .ok (.getfield 19, 3) := by decide +kernel
theorem dX5_forgetOldest_38 : decode cX5_forgetOldest 38 = .ok (.iload_n 2, 1) := by decide +kernel
theorem dX5_forgetOldest_39 : decode cX5_forgetOldest 39 = .ok (.aaload, 1) := by decide +kernel
theorem dX5_forgetOldest_40 : decode cX5_forgetOldest 40 = .ok (.aastore, 1) := by decide +kernel
theorem dX5_forgetOldest_41 : decode cX5_forgetOldest 41 = .ok (.iinc 2 1, 3) := by decide +kernel
theorem dX5_forgetOldest_44 : decode cX5_forgetOldest 44 = .ok (.goto (-26), 3) := by decide +kernel
theorem dX5_forgetOldest_47 : decode cX5_forgetOldest 47 = .ok (.aload_n 0, 1) := by decide +kernel
theorem dX5_forgetOldest_48 : decode cX5_forgetOldest 48 = .ok (.getfield 19, 3) := by decide +kernel
theorem dX5_forgetOldest_51 : decode cX5_forgetOldest 51 = .ok (.aload_n 0, 1) := by decide +kernel
theorem dX5_forgetOldest_52 : decode cX5_forgetOldest 52 = .ok (.getfield 19, 3) := by decide +kernel
theorem dX5_forgetOldest_55 : decode cX5_forgetOldest 55 = .ok (.arraylength, 1) := by decide +kernel
theorem dX5_forgetOldest_56 : decode cX5_forgetOldest 56 = .ok (.iconst 1, 1) := by decide +kernel
theorem dX5_forgetOldest_57 : decode cX5_forgetOldest 57 = .ok (.isub, 1) := by decide +kernel
theorem dX5_forgetOldest_58 : decode cX5_forgetOldest 58 = .ok (.aload_n 1, 1) := by decide +kernel
theorem dX5_forgetOldest_59 : decode cX5_forgetOldest 59 = .ok (.aastore, 1) := by decide +kernel
theorem dX5_forgetOldest_60 : decode cX5_forgetOldest 60 = .ok (.aload_n 0, 1) := by decide +kernel
theorem dX5_forgetOldest_61 : decode cX5_forgetOldest 61 = .ok (.aload_n 0, 1) := by decide +kernel
theorem dX5_forgetOldest_62 : decode cX5_forgetOldest 62 = .ok (.getfield 19, 3) := by decide +kernel
theorem dX5_forgetOldest_65 : decode cX5_forgetOldest 65 = .ok (.arraylength, 1) := by decide +kernel
theorem dX5_forgetOldest_66 : decode cX5_forgetOldest 66 = .ok (.iconst 1, 1) := by decide +kernel
theorem dX5_forgetOldest_67 : decode cX5_forgetOldest 67 = .ok (.isub, 1) := by decide +kernel
theorem dX5_forgetOldest_68 : decode cX5_forgetOldest 68 = .ok (.putfield 274, 3) := by decide +kernel
theorem dX5_forgetOldest_71 : decode cX5_forgetOldest 71 = .ok (.return_, 1) := by decide +kernel
theorem dX5_decide_0 : decode cX5_decide 0 = .ok (.aload_n 0, 1) := by decide +kernel
theorem dX5_decide_1 : decode cX5_decide 1 = .ok (.getfield 40, 3) := by decide +kernel
theorem dX5_decide_4 : decode cX5_decide 4 = .ok (.aload_n 0, 1) := by decide +kernel
theorem dX5_decide_5 : decode cX5_decide 5 = .ok (.getfield 10, 3) := by decide +kernel
theorem dX5_decide_8 : decode cX5_decide 8 = .ok (.aload_n 1, 1) := by decide +kernel
theorem dX5_decide_9 : decode cX5_decide 9 = .ok (.invokevirtual 170, 3) := by decide +kernel
theorem dX5_decide_12 : decode cX5_decide 12 = .ok (.aload_n 0, 1) := by decide +kernel
theorem dX5_decide_13 : decode cX5_decide 13 = .ok (.aload_n 1, 1) := by decide +kernel
theorem dX5_decide_14 : decode cX5_decide 14 = .ok (.iload_n 2, 1) := by decide +kernel
theorem dX5_decide_15 : decode cX5_decide 15 = .ok (.invokevirtual 238, 3) := by decide +kernel
theorem dX5_decide_18 : decode cX5_decide 18 = .ok (.istore_n 3, 1) := by decide +kernel
theorem dX5_decide_19 : decode cX5_decide 19 = .ok (.iload_n 3, 1) := by decide +kernel
theorem dX5_decide_20 : decode cX5_decide 20 = .ok (.ifCond .eq 18, 3) := by decide +kernel
theorem dX5_decide_23 : decode cX5_decide 23 = .ok (.aload_n 0, 1) := by decide +kernel
theorem dX5_decide_24 : decode cX5_decide 24 = .ok (.getfield 10, 3) := by decide +kernel
theorem dX5_decide_27 : decode cX5_decide 27 = .ok (.dup, 1) := by decide +kernel
theorem dX5_decide_28 : decode cX5_decide 28 = .ok (.getfield 265, 3) := by decide +kernel
theorem dX5_decide_31 : decode cX5_decide 31 = .ok (.iconst 1, 1) := by decide +kernel
theorem dX5_decide_32 : decode cX5_decide 32 = .ok (.iadd, 1) := by decide +kernel
theorem dX5_decide_33 : decode cX5_decide 33 = .ok (.putfield 265, 3) := by decide +kernel
theorem dX5_decide_36 : decode cX5_decide 36 = .ok (.iload_n 3, 1) := by decide +kernel
theorem dX5_decide_37 : decode cX5_decide 37 = .ok (.ireturn, 1) := by decide +kernel
theorem dX5_decide_38 : decode cX5_decide 38 = .ok (.aload_n 1, 1) := by decide +kernel
theorem dX5_decide_39 : decode cX5_decide 39 = .ok (.iload_n 2, 1) := by decide +kernel
theorem dX5_decide_40 : decode cX5_decide 40 = .ok (.invokevirtual 208, 3) := by decide +kernel
theorem dX5_decide_43 : decode cX5_decide 43 = .ok (.istore 4, 2) := by decide +kernel
theorem dX5_decide_45 : decode cX5_decide 45 = .ok (.aload_n 0, 1) := by decide +kernel
theorem dX5_decide_46 : decode cX5_decide 46 = .ok (.getfield 40, 3) := by decide +kernel
theorem dX5_decide_49 : decode cX5_decide 49 = .ok (.aload_n 1, 1) := by decide +kernel
theorem dX5_decide_50 : decode cX5_decide 50 = .ok (.getfield 105, 3) := by decide +kernel
theorem dX5_decide_53 : decode cX5_decide 53 = .ok (.invokevirtual 189, 3) := by decide +kernel
theorem dX5_decide_56 : decode cX5_decide 56 = .ok (.aload_n 0, 1) := by decide +kernel
theorem dX5_decide_57 : decode cX5_decide 57 = .ok (.getfield 40, 3) := by decide +kernel
theorem dX5_decide_60 : decode cX5_decide 60 = .ok (.iload 4, 2) := by decide +kernel
theorem dX5_decide_62 : decode cX5_decide 62 = .ok (.invokevirtual 189, 3) := by decide +kernel
theorem dX5_decide_65 : decode cX5_decide 65 = .ok (.isub, 1) := by decide +kernel
theorem dX5_decide_66 : decode cX5_decide 66 = .ok (.istore 5, 2) := by decide +kernel
theorem dX5_decide_68 : decode cX5_decide 68 = .ok (.aload_n 1, 1) := by decide +kernel
theorem dX5_decide_69 : decode cX5_decide 69 = .ok (.iload 4, 2) := by decide +kernel
theorem dX5_decide_71 : decode cX5_decide 71 = .ok (.putfield 105, 3) := by decide +kernel
theorem dX5_decide_74 : decode cX5_decide 74 = .ok (.aload_n 1, 1) := by decide +kernel
theorem dX5_decide_75 : decode cX5_decide 75 = .ok (.dup, 1) := by decide +kernel
theorem dX5_decide_76 : decode cX5_decide 76 = .ok (.getfield 196, 3) := by decide +kernel
theorem dX5_decide_79 : decode cX5_decide 79 = .ok (.iconst 1, 1) := by decide +kernel
theorem dX5_decide_80 : decode cX5_decide 80 = .ok (.iadd, 1) := by decide +kernel
theorem dX5_decide_81 : decode cX5_decide 81 = .ok (.putfield 196, 3) := by decide +kernel
theorem dX5_decide_84 : decode cX5_decide 84 = .ok (.aload_n 0, 1) := by decide +kernel
theorem dX5_decide_85 : decode cX5_decide 85 = .ok (.getfield 10, 3) := by decide +kernel
theorem dX5_decide_88 : decode cX5_decide 88 = .ok (.dup, 1) := by decide +kernel
theorem dX5_decide_89 : decode cX5_decide 89 = .ok (.getfield 264, 3) := by decide +kernel
theorem dX5_decide_92 : decode cX5_decide 92 = .ok (.iconst 1, 1) := by decide +kernel
theorem dX5_decide_93 : decode cX5_decide 93 = .ok (.iadd, 1) := by decide +kernel
theorem dX5_decide_94 : decode cX5_decide 94 = .ok (.putfield 264, 3) := by decide +kernel
theorem dX5_decide_97 : decode cX5_decide 97 = .ok (.bipush 10, 2) := by decide +kernel
theorem dX5_decide_99 : decode cX5_decide 99 = .ok (.iload 5, 2) := by decide +kernel
theorem dX5_decide_101 : decode cX5_decide 101 = .ok (.iadd, 1) := by decide +kernel
theorem dX5_decide_102 : decode cX5_decide 102 = .ok (.ireturn, 1) := by decide +kernel
theorem dX5_reasonAgainst_0 : decode cX5_reasonAgainst 0 = .ok (.aload_n 0, 1) := by decide +kernel
theorem dX5_reasonAgainst_1 : decode cX5_reasonAgainst 1 = .ok (.getfield 10, 3) := by decide +kernel
theorem dX5_reasonAgainst_4 : decode cX5_reasonAgainst 4 = .ok (.aload_n 1, 1) := by decide +kernel
theorem dX5_reasonAgainst_5 : decode cX5_reasonAgainst 5 = .ok (.invokevirtual 192, 3) := by decide +kernel
theorem dX5_reasonAgainst_8 : decode cX5_reasonAgainst 8 = .ok (.ifCond .eq 5, 3) := by decide +kernel
theorem dX5_reasonAgainst_11 : decode cX5_reasonAgainst 11 = .ok (.iconst 1, 1) := by decide +kernel
theorem dX5_reasonAgainst_12 : decode cX5_reasonAgainst 12 = .ok (.ireturn, 1) := by decide +kernel
theorem dX5_reasonAgainst_13 : decode cX5_reasonAgainst 13 = .ok (.aload_n 1, 1) := by decide +kernel
theorem dX5_reasonAgainst_14 : decode cX5_reasonAgainst 14 = .ok (.iload_n 2, 1) := by decide +kernel
theorem dX5_reasonAgainst_15 : decode cX5_reasonAgainst 15 = .ok (.invokevirtual 208, 3) := by decide +kernel
theorem dX5_reasonAgainst_18 : decode cX5_reasonAgainst 18 = .ok (.istore_n 3, 1) := by decide +kernel
theorem dX5_reasonAgainst_19 : decode cX5_reasonAgainst 19 = .ok (.aload_n 0, 1) := by decide +kernel
theorem dX5_reasonAgainst_20 : decode cX5_reasonAgainst 20 = .ok (.getfield 40, 3) := by decide +kernel
theorem dX5_reasonAgainst_23 : decode cX5_reasonAgainst 23 = .ok (.iload_n 3, 1) := by decide +kernel
theorem dX5_reasonAgainst_24 : decode cX5_reasonAgainst 24 = .ok (.invokevirtual 189, 3) := by decide +kernel
theorem dX5_reasonAgainst_27 : decode cX5_reasonAgainst 27 = .ok (.aload_n 0, 1) := by decide +kernel
theorem dX5_reasonAgainst_28 : decode cX5_reasonAgainst 28 = .ok (.getfield 40, 3) := by decide +kernel
theorem dX5_reasonAgainst_31 : decode cX5_reasonAgainst 31 = .ok (.aload_n 1, 1) := by decide +kernel
theorem dX5_reasonAgainst_32 : decode cX5_reasonAgainst 32 = .ok (.getfield 105, 3) := by decide +kernel
theorem dX5_reasonAgainst_35 : decode cX5_reasonAgainst 35 = .ok (.invokevirtual 189, 3) := by decide +kernel
theorem dX5_reasonAgainst_38 : decode cX5_reasonAgainst 38 = .ok (.if_icmp .lt 5, 3) := by decide +kernel
theorem dX5_reasonAgainst_41 : decode cX5_reasonAgainst 41 = .ok (.iconst 2, 1) := by decide +kernel
theorem dX5_reasonAgainst_42 : decode cX5_reasonAgainst 42 = .ok (.ireturn, 1) := by decide +kernel
theorem dX5_reasonAgainst_43 : decode cX5_reasonAgainst 43 = .ok (.aload_n 0, 1) := by decide +kernel
theorem dX5_reasonAgainst_44 : decode cX5_reasonAgainst 44 = .ok (.getfield 10, 3) := by decide +kernel
theorem dX5_reasonAgainst_47 : decode cX5_reasonAgainst 47 = .ok (.aload_n 1, 1) := by decide +kernel
theorem dX5_reasonAgainst_48 : decode cX5_reasonAgainst 48 = .ok (.iload_n 3, 1) := by decide +kernel
theorem dX5_reasonAgainst_49 : decode cX5_reasonAgainst 49 = .ok (.invokevirtual 108, 3) := by decide +kernel
theorem dX5_reasonAgainst_52 : decode cX5_reasonAgainst 52 = .ok (.ifCond .eq 7, 3) := by decide +kernel
theorem dX5_reasonAgainst_55 : decode cX5_reasonAgainst 55 = .ok (.iconst 3, 1) := by decide +kernel
theorem dX5_reasonAgainst_56 : decode cX5_reasonAgainst 56 = .ok (.goto 4, 3) := by decide +kernel
theorem dX5_reasonAgainst_59 : decode cX5_reasonAgainst 59 = .ok (.iconst 0, 1) := by decide +kernel
theorem dX5_reasonAgainst_60 : decode cX5_reasonAgainst 60 = .ok (.ireturn, 1) := by decide +kernel
theorem dX5_reasonOfPart_0 : decode cX5_reasonOfPart 0 = .ok (.aload_n 0, 1) := by decide +kernel
theorem dX5_reasonOfPart_1 : decode cX5_reasonOfPart 1 = .ok (.getfield 26, 3) := by decide +kernel
theorem dX5_reasonOfPart_4 : decode cX5_reasonOfPart 4 = .ok (.iload_n 1, 1) := by decide +kernel
theorem dX5_reasonOfPart_5 : decode cX5_reasonOfPart 5 = .ok (.invokevirtual 297, 3) := by decide +kernel
theorem dX5_reasonOfPart_8 : decode cX5_reasonOfPart 8 = .ok (.bipush 43, 2) := by decide +kernel
theorem dX5_reasonOfPart_10 : decode cX5_reasonOfPart 10 = .ok (.if_icmp .ne 18, 3) := by decide +kernel
theorem dX5_reasonOfPart_13 : decode cX5_reasonOfPart 13 = .ok (.aload_n 0, 1) := by decide +kernel
theorem dX5_reasonOfPart_14 : decode cX5_reasonOfPart 14 = .ok (.getfield 10, 3) := by decide +kernel
theorem dX5_reasonOfPart_17 : decode cX5_reasonOfPart 17 = .ok (.dup, 1) := by decide +kernel
theorem dX5_reasonOfPart_18 : decode cX5_reasonOfPart 18 = .ok (.getfield 139, 3) := by decide +kernel
theorem dX5_reasonOfPart_21 : decode cX5_reasonOfPart 21 = .ok (.iconst 1, 1) := by decide +kernel
theorem dX5_reasonOfPart_22 : decode cX5_reasonOfPart 22 = .ok (.iadd, 1) := by decide +kernel
theorem dX5_reasonOfPart_23 : decode cX5_reasonOfPart 23 = .ok (.putfield 139, 3) := by decide +kernel
theorem dX5_reasonOfPart_26 : decode cX5_reasonOfPart 26 = .ok (.iconst 0, 1) := by decide +kernel
theorem dX5_reasonOfPart_27 : decode cX5_reasonOfPart 27 = .ok (.ireturn, 1) := by decide +kernel
theorem dX5_reasonOfPart_28 : decode cX5_reasonOfPart 28 = .ok (.aload_n 0, 1) := by decide +kernel
theorem dX5_reasonOfPart_29 : decode cX5_reasonOfPart 29 = .ok (.getfield 10, 3) := by decide +kernel
theorem dX5_reasonOfPart_32 : decode cX5_reasonOfPart 32 = .ok (.aload_n 0, 1) := by decide +kernel
theorem dX5_reasonOfPart_33 : decode cX5_reasonOfPart 33 = .ok (.getfield 26, 3) := by decide +kernel
theorem dX5_reasonOfPart_36 : decode cX5_reasonOfPart 36 = .ok (.iload_n 1, 1) := by decide +kernel
theorem dX5_reasonOfPart_37 : decode cX5_reasonOfPart 37 = .ok (.invokevirtual 297, 3) := by decide +kernel
theorem dX5_reasonOfPart_40 : decode cX5_reasonOfPart 40 = .ok (.bipush 48, 2) := by decide +kernel
theorem dX5_reasonOfPart_42 : decode cX5_reasonOfPart 42 = .ok (.isub, 1) := by decide +kernel
theorem dX5_reasonOfPart_43 : decode cX5_reasonOfPart 43 = .ok (.invokevirtual 121, 3) := by decide +kernel
theorem dX5_reasonOfPart_46 : decode cX5_reasonOfPart 46 = .ok (.astore_n 2, 1) := by decide +kernel
theorem dX5_reasonOfPart_47 : decode cX5_reasonOfPart 47 = .ok (.aload_n 0, 1) := by decide +kernel
theorem dX5_reasonOfPart_48 : decode cX5_reasonOfPart 48 = .ok (.getfield 26, 3) := by decide +kernel
theorem dX5_reasonOfPart_51 : decode cX5_reasonOfPart 51 = .ok (.iload_n 1, 1) := by decide +kernel
theorem dX5_reasonOfPart_52 : decode cX5_reasonOfPart 52 = .ok (.iconst 2, 1) := by decide +kernel
theorem dX5_reasonOfPart_53 : decode cX5_reasonOfPart 53 = .ok (.iadd, 1) := by decide +kernel
theorem dX5_reasonOfPart_54 : decode cX5_reasonOfPart 54 = .ok (.invokevirtual 300, 3) := by decide +kernel
theorem dX5_reasonOfPart_57 : decode cX5_reasonOfPart 57 = .ok (.istore_n 3, 1) := by decide +kernel
theorem dX5_reasonOfPart_58 : decode cX5_reasonOfPart 58 = .ok (.aload_n 2, 1) := by decide +kernel
theorem dX5_reasonOfPart_59 : decode cX5_reasonOfPart 59 = .ok (.ifnull 11, 3) := by decide +kernel
theorem dX5_reasonOfPart_62 : decode cX5_reasonOfPart 62 = .ok (.aload_n 2, 1) := by decide +kernel
theorem dX5_reasonOfPart_63 : decode cX5_reasonOfPart 63 = .ok (.iload_n 3, 1) := by decide +kernel
theorem dX5_reasonOfPart_64 : decode cX5_reasonOfPart 64 = .ok (.invokevirtual 129, 3) := by decide +kernel
theorem dX5_reasonOfPart_67 : decode cX5_reasonOfPart 67 = .ok (.ifCond .ne 5, 3) := by decide +kernel
theorem dX5_reasonOfPart_70 : decode cX5_reasonOfPart 70 = .ok (.iconst (-1), 1) := by decide +kernel
theorem dX5_reasonOfPart_71 : decode cX5_reasonOfPart 71 = .ok (.ireturn, 1) := by decide +kernel
theorem dX5_reasonOfPart_72 : decode cX5_reasonOfPart 72 = .ok (.aload_n 0, 1) := by decide +kernel
theorem dX5_reasonOfPart_73 : decode cX5_reasonOfPart 73 = .ok (.aload_n 2, 1) := by decide +kernel
theorem dX5_reasonOfPart_74 : decode cX5_reasonOfPart 74 = .ok (.iload_n 3, 1) := by decide +kernel
theorem dX5_reasonOfPart_75 : decode cX5_reasonOfPart 75 = .ok (.invokevirtual 132, 3) := by decide +kernel
theorem dX5_reasonOfPart_78 : decode cX5_reasonOfPart 78 = .ok (.istore 4, 2) := by decide +kernel
theorem dX5_reasonOfPart_80 : decode cX5_reasonOfPart 80 = .ok (.iload 4, 2) := by decide +kernel
theorem dX5_reasonOfPart_82 : decode cX5_reasonOfPart 82 = .ok (.bipush 10, 2) := by decide +kernel
theorem dX5_reasonOfPart_84 : decode cX5_reasonOfPart 84 = .ok (.if_icmp .le 7, 3) := by decide +kernel
theorem dX5_reasonOfPart_87 : decode cX5_reasonOfPart 87 = .ok (.iconst 0, 1) := by decide +kernel
theorem dX5_reasonOfPart_88 : decode cX5_reasonOfPart 88 = .ok (.goto 5, 3) := by decide +kernel
theorem dX5_reasonOfPart_91 : decode cX5_reasonOfPart 91 = .ok (.iload 4, 2) := by decide +kernel
theorem dX5_reasonOfPart_93 : decode cX5_reasonOfPart 93 = .ok (.ireturn, 1) := by decide +kernel
theorem dX5_costOfEdition_0 : decode cX5_costOfEdition 0 = .ok (.aload_n 0, 1) := by decide +kernel
theorem dX5_costOfEdition_1 : decode cX5_costOfEdition 1 = .ok (.getfield 10, 3) := by decide +kernel
theorem dX5_costOfEdition_4 : decode cX5_costOfEdition 4 = .ok (.iload_n 1, 1) := by decide +kernel
theorem dX5_costOfEdition_5 : decode cX5_costOfEdition 5 = .ok (.invokevirtual 121, 3) := by decide +kernel
theorem dX5_costOfEdition_8 : decode cX5_costOfEdition 8 = .ok (.astore_n 2, 1) := by decide +kernel
theorem dX5_costOfEdition_9 : decode cX5_costOfEdition 9 = .ok (.aload_n 2, 1) := by decide +kernel
theorem dX5_costOfEdition_10 : decode cX5_costOfEdition 10 = .ok (.ifnonnull 5, 3) := by decide +kernel
theorem dX5_costOfEdition_13 : decode cX5_costOfEdition 13 = .ok (.iconst 0, 1) := by decide +kernel
theorem dX5_costOfEdition_14 : decode cX5_costOfEdition 14 = .ok (.ireturn, 1) := by decide +kernel
theorem dX5_costOfEdition_15 : decode cX5_costOfEdition 15 = .ok (.aload_n 0, 1) := by decide +kernel
theorem dX5_costOfEdition_16 : decode cX5_costOfEdition 16 = .ok (.getfield 40, 3) := by decide +kernel
theorem dX5_costOfEdition_19 : decode cX5_costOfEdition 19 = .ok (.aload_n 0, 1) := by decide +kernel
theorem dX5_costOfEdition_20 : decode cX5_costOfEdition 20 = .ok (.getfield 10, 3) := by decide +kernel
theorem dX5_costOfEdition_23 : decode cX5_costOfEdition 23 = .ok (.aload_n 2, 1) := by decide +kernel
theorem dX5_costOfEdition_24 : decode cX5_costOfEdition 24 = .ok (.invokevirtual 170, 3) := by decide +kernel
theorem dX5_costOfEdition_27 : decode cX5_costOfEdition 27 = .ok (.aload_n 0, 1) := by decide +kernel
theorem dX5_costOfEdition_28 : decode cX5_costOfEdition 28 = .ok (.getfield 40, 3) := by decide +kernel
theorem dX5_costOfEdition_31 : decode cX5_costOfEdition 31 = .ok (.aload_n 2, 1) := by decide +kernel
theorem dX5_costOfEdition_32 : decode cX5_costOfEdition 32 = .ok (.getfield 105, 3) := by decide +kernel
theorem dX5_costOfEdition_35 : decode cX5_costOfEdition 35 = .ok (.invokevirtual 189, 3) := by decide +kernel
theorem dX5_costOfEdition_38 : decode cX5_costOfEdition 38 = .ok (.ireturn, 1) := by decide +kernel
theorem dX5_costOfAll_0 : decode cX5_costOfAll 0 = .ok (.iconst 0, 1) := by decide +kernel
theorem dX5_costOfAll_1 : decode cX5_costOfAll 1 = .ok (.istore_n 1, 1) := by decide +kernel
theorem dX5_costOfAll_2 : decode cX5_costOfAll 2 = .ok (.iconst 0, 1) := by decide +kernel
theorem dX5_costOfAll_3 : decode cX5_costOfAll 3 = .ok (.istore_n 2, 1) := by decide +kernel
theorem dX5_costOfAll_4 : decode cX5_costOfAll 4 = .ok (.iload_n 2, 1) := by decide +kernel
theorem dX5_costOfAll_5 : decode cX5_costOfAll 5 = .ok (.aload_n 0, 1) := by decide +kernel
theorem dX5_costOfAll_6 : decode cX5_costOfAll 6 = .ok (.getfield 10, 3) := by decide +kernel
theorem dX5_costOfAll_9 : decode cX5_costOfAll 9 = .ok (.getfield 112, 3) := by decide +kernel
theorem dX5_costOfAll_12 : decode cX5_costOfAll 12 = .ok (.if_icmp .ge 17, 3) := by decide +kernel
theorem dX5_costOfAll_15 : decode cX5_costOfAll 15 = .ok (.iload_n 1, 1) := by decide +kernel
theorem dX5_costOfAll_16 : decode cX5_costOfAll 16 = .ok (.aload_n 0, 1) := by decide +kernel
theorem dX5_costOfAll_17 : decode cX5_costOfAll 17 = .ok (.iload_n 2, 1) := by decide +kernel
theorem dX5_costOfAll_18 : decode cX5_costOfAll 18 = .ok (.invokevirtual 303, 3) := by decide +kernel
theorem dX5_costOfAll_21 : decode cX5_costOfAll 21 = .ok (.iadd, 1) := by decide +kernel
theorem dX5_costOfAll_22 : decode cX5_costOfAll 22 = .ok (.istore_n 1, 1) := by decide +kernel
theorem dX5_costOfAll_23 : decode cX5_costOfAll 23 = .ok (.iinc 2 1, 3) := by decide +kernel
theorem dX5_costOfAll_26 : decode cX5_costOfAll 26 = .ok (.goto (-22), 3) := by decide +kernel
theorem dX5_costOfAll_29 : decode cX5_costOfAll 29 = .ok (.iload_n 1, 1) := by decide +kernel
theorem dX5_costOfAll_30 : decode cX5_costOfAll 30 = .ok (.ireturn, 1) := by decide +kernel
theorem dX5_cheapestEdition_0 : decode cX5_cheapestEdition 0 = .ok (.bipush (-4), 2) := by decide +kernel
theorem dX5_cheapestEdition_2 : decode cX5_cheapestEdition 2 = .ok (.istore_n 1, 1) := by decide +kernel
theorem dX5_cheapestEdition_3 : decode cX5_cheapestEdition 3 = .ok (.iconst 0, 1) := by decide +kernel
theorem dX5_cheapestEdition_4 : decode cX5_cheapestEdition 4 = .ok (.istore_n 2, 1) := by decide +kernel
theorem dX5_cheapestEdition_5 : decode cX5_cheapestEdition 5 = .ok (.iconst 0, 1) := by decide +kernel
theorem dX5_cheapestEdition_6 : decode cX5_cheapestEdition 6 = .ok (.istore_n 3, 1) := by decide +kernel
theorem dX5_cheapestEdition_7 : decode cX5_cheapestEdition 7 = .ok (.iload_n 3, 1) := by decide +kernel
theorem dX5_cheapestEdition_8 : decode cX5_cheapestEdition 8 = .ok (.aload_n 0, 1) := by decide +kernel
theorem dX5_cheapestEdition_9 : decode cX5_cheapestEdition 9 = .ok (.getfield 10, 3) := by decide +kernel
theorem dX5_cheapestEdition_12 : decode cX5_cheapestEdition 12 = .ok (.getfield 112, 3) := by decide +kernel
theorem dX5_cheapestEdition_15 : decode cX5_cheapestEdition 15 = .ok (.if_icmp .ge 33, 3) := by decide +kernel
theorem dX5_cheapestEdition_18 : decode cX5_cheapestEdition 18 = .ok (.aload_n 0, 1) := by decide +kernel
theorem dX5_cheapestEdition_19 : decode cX5_cheapestEdition 19 = .ok (.iload_n 3, 1) := by decide +kernel
theorem dX5_cheapestEdition_20 : decode cX5_cheapestEdition 20 = .ok (.invokevirtual 303, 3) := by decide +kernel
theorem dX5_cheapestEdition_23 : decode cX5_cheapestEdition 23 = .ok (.istore 4, 2) := by decide +kernel
theorem dX5_cheapestEdition_25 : decode cX5_cheapestEdition 25 = .ok (.iload_n 1, 1) := by decide +kernel
theorem dX5_cheapestEdition_26 : decode cX5_cheapestEdition 26 = .ok (.bipush (-4), 2) := by decide +kernel
theorem dX5_cheapestEdition_28 : decode cX5_cheapestEdition 28 = .ok (.if_icmp .eq 9, 3) := by decide +kernel
theorem dX5_cheapestEdition_31 : decode cX5_cheapestEdition 31 = .ok (.iload 4, 2) := by decide +kernel
theorem dX5_cheapestEdition_33 : decode cX5_cheapestEdition 33 = .ok (.iload_n 2, 1) := by decide +kernel
theorem dX5_cheapestEdition_34 : decode cX5_cheapestEdition 34 = .ok (.if_icmp .ge 8, 3) := by decide +kernel
theorem dX5_cheapestEdition_37 : decode cX5_cheapestEdition 37 = .ok (.iload_n 3, 1) := by decide +kernel
theorem dX5_cheapestEdition_38 : decode cX5_cheapestEdition 38 = .ok (.istore_n 1, 1) := by decide +kernel
theorem dX5_cheapestEdition_39 : decode cX5_cheapestEdition 39 = .ok (.iload 4, 2) := by decide +kernel
theorem dX5_cheapestEdition_41 : decode cX5_cheapestEdition 41 = .ok (.istore_n 2, 1) := by decide +kernel
theorem dX5_cheapestEdition_42 : decode cX5_cheapestEdition 42 = .ok (.iinc 3 1, 3) := by decide +kernel
theorem dX5_cheapestEdition_45 : decode cX5_cheapestEdition 45 = .ok (.goto (-38), 3) := by decide +kernel
theorem dX5_cheapestEdition_48 : decode cX5_cheapestEdition 48 = .ok (.iload_n 1, 1) := by decide +kernel
theorem dX5_cheapestEdition_49 : decode cX5_cheapestEdition 49 = .ok (.ireturn, 1) := by decide +kernel
theorem dX5_splittingsFrom_0 : decode cX5_splittingsFrom 0 = .ok (.iload_n 1, 1) := by decide +kernel
theorem dX5_splittingsFrom_1 : decode cX5_splittingsFrom 1 = .ok (.aload_n 0, 1) := by decide +kernel
theorem dX5_splittingsFrom_2 : decode cX5_splittingsFrom 2 = .ok (.getfield 306, 3) := by decide +kernel
theorem dX5_splittingsFrom_5 : decode cX5_splittingsFrom 5 = .ok (.if_icmp .lt 5, 3) := by decide +kernel
theorem dX5_splittingsFrom_8 : decode cX5_splittingsFrom 8 = .ok (.iconst 1, 1) := by decide +kernel
theorem dX5_splittingsFrom_9 : decode cX5_splittingsFrom 9 = .ok (.ireturn, 1) := by decide +kernel
theorem dX5_splittingsFrom_10 : decode cX5_splittingsFrom 10 = .ok (.iload_n 2, 1) := by decide +kernel
theorem dX5_splittingsFrom_11 : decode cX5_splittingsFrom 11 = .ok (.bipush 12, 2) := by decide +kernel
theorem dX5_splittingsFrom_13 : decode cX5_splittingsFrom 13 = .ok (.if_icmp .lt 5, 3) := by decide +kernel
theorem dX5_splittingsFrom_16 : decode cX5_splittingsFrom 16 = .ok (.iconst 0, 1) := by decide +kernel
theorem dX5_splittingsFrom_17 : decode cX5_splittingsFrom 17 = .ok (.ireturn, 1) := by decide +kernel
theorem dX5_splittingsFrom_18 : decode cX5_splittingsFrom 18 = .ok (.iconst 0, 1) := by decide +kernel
theorem dX5_splittingsFrom_19 : decode cX5_splittingsFrom 19 = .ok (.istore_n 3, 1) := by decide +kernel
theorem dX5_splittingsFrom_20 : decode cX5_splittingsFrom 20 = .ok (.iconst 0, 1) := by decide +kernel
theorem dX5_splittingsFrom_21 : decode cX5_splittingsFrom 21 = .ok (.istore 4, 2) := by decide +kernel
theorem dX5_splittingsFrom_23 : decode cX5_splittingsFrom 23 = .ok (.iload_n 1, 1) := by decide +kernel
theorem dX5_splittingsFrom_24 : decode cX5_splittingsFrom 24 = .ok (.istore 5, 2) := by decide +kernel
theorem dX5_splittingsFrom_26 : decode cX5_splittingsFrom 26 = .ok (.iload 5, 2) := by decide +kernel
theorem dX5_splittingsFrom_28 : decode cX5_splittingsFrom 28 = .ok (.aload_n 0, 1) := by decide +kernel
theorem dX5_splittingsFrom_29 : decode cX5_splittingsFrom 29 = .ok (.getfield 306, 3) := by decide +kernel
theorem dX5_splittingsFrom_32 : decode cX5_splittingsFrom 32 = .ok (.if_icmp .ge 46, 3) := by decide +kernel
theorem dX5_splittingsFrom_35 : decode cX5_splittingsFrom 35 = .ok (.iload 4, 2) := by decide +kernel
theorem dX5_splittingsFrom_37 : decode cX5_splittingsFrom 37 = .ok (.aload_n 0, 1) := by decide +kernel
theorem dX5_splittingsFrom_38 : decode cX5_splittingsFrom 38 = .ok (.getfield 307, 3) := by decide +kernel
theorem dX5_splittingsFrom_41 : decode cX5_splittingsFrom 41 = .ok (.iload 5, 2) := by decide +kernel
theorem dX5_splittingsFrom_43 : decode cX5_splittingsFrom 43 = .ok (.invokestatic 59, 3) := by decide +kernel
theorem dX5_splittingsFrom_46 : decode cX5_splittingsFrom 46 = .ok (.iadd, 1) := by decide +kernel
theorem dX5_splittingsFrom_47 : decode cX5_splittingsFrom 47 = .ok (.istore 4, 2) := by decide +kernel
theorem dX5_splittingsFrom_49 : decode cX5_splittingsFrom 49 = .ok (.iload 4, 2) := by decide +kernel
theorem dX5_splittingsFrom_51 : decode cX5_splittingsFrom 51 = .ok (.aload_n 0, 1) := by decide +kernel
theorem dX5_splittingsFrom_52 : decode cX5_splittingsFrom 52 = .ok (.getfield 308, 3) := by decide +kernel
theorem dX5_splittingsFrom_55 : decode cX5_splittingsFrom 55 = .ok (.if_icmp .gt 17, 3) := by decide +kernel
theorem dX5_splittingsFrom_58 : decode cX5_splittingsFrom 58 = .ok (.iload_n 3, 1) := by decide +kernel
theorem dX5_splittingsFrom_59 : decode cX5_splittingsFrom 59 = .ok (.aload_n 0, 1) := by decide +kernel
theorem dX5_splittingsFrom_60 : decode cX5_splittingsFrom 60 = .ok (.iload 5, 2) := by decide +kernel
theorem dX5_splittingsFrom_62 : decode cX5_splittingsFrom 62 = .ok (.iconst 1, 1) := by decide +kernel
theorem dX5_splittingsFrom_63 : decode cX5_splittingsFrom 63 = .ok (.iadd, 1) := by decide +kernel
theorem dX5_splittingsFrom_64 : decode cX5_splittingsFrom 64 = .ok (.iload_n 2, 1) := by decide +kernel
theorem dX5_splittingsFrom_65 : decode cX5_splittingsFrom 65 = .ok (.iconst 1, 1) := by decide +kernel
theorem dX5_splittingsFrom_66 : decode cX5_splittingsFrom 66 = .ok (.iadd, 1) := by decide +kernel
theorem dX5_splittingsFrom_67 : decode cX5_splittingsFrom 67 = .ok (.invokestatic 251, 3) := by decide +kernel
theorem dX5_splittingsFrom_70 : decode cX5_splittingsFrom 70 = .ok (.iadd, 1) := by decide +kernel
theorem dX5_splittingsFrom_71 : decode cX5_splittingsFrom 71 = .ok (.istore_n 3, 1) := by decide +kernel
theorem dX5_splittingsFrom_72 : decode cX5_splittingsFrom 72 = .ok (.iinc 5 1, 3) := by decide +kernel
theorem dX5_splittingsFrom_75 : decode cX5_splittingsFrom 75 = .ok (.goto (-49), 3) := by decide +kernel
theorem dX5_splittingsFrom_78 : decode cX5_splittingsFrom 78 = .ok (.iload_n 3, 1) := by decide +kernel
theorem dX5_splittingsFrom_79 : decode cX5_splittingsFrom 79 = .ok (.ireturn, 1) := by decide +kernel
theorem dX6_init_0 : decode cX6_init 0 = .ok (.aload_n 0, 1) := by decide +kernel
theorem dX6_init_1 : decode cX6_init 1 = .ok (.invokespecial 1, 3) := by decide +kernel
theorem dX6_init_4 : decode cX6_init 4 = .ok (.aload_n 0, 1) := by decide +kernel
theorem dX6_init_5 : decode cX6_init 5 = .ok (.sipush 137, 3) := by decide +kernel
theorem dX6_init_8 : decode cX6_init 8 = .ok (.newarray .int, 2) := by decide +kernel
theorem dX6_init_10 : decode cX6_init 10 = .ok (.putfield 7, 3) := by decide +kernel
theorem dX6_init_13 : decode cX6_init 13 = .ok (.aload_n 0, 1) := by decide +kernel
theorem dX6_init_14 : decode cX6_init 14 = .ok (.sipush 548, 3) := by decide +kernel
theorem dX6_init_17 : decode cX6_init 17 = .ok (.newarray .int, 2) := by decide +kernel
theorem dX6_init_19 : decode cX6_init 19 = .ok (.putfield 13, 3) := by decide +kernel
theorem dX6_init_22 : decode cX6_init 22 = .ok (.aload_n 0, 1) := by decide +kernel
theorem dX6_init_23 : decode cX6_init 23 = .ok (.sipush 137, 3) := by decide +kernel
theorem dX6_init_26 : decode cX6_init 26 = .ok (.newarray .int, 2) := by decide +kernel
theorem dX6_init_28 : decode cX6_init 28 = .ok (.putfield 16, 3) := by decide +kernel
theorem dX6_init_31 : decode cX6_init 31 = .ok (.aload_n 0, 1) := by decide +kernel
theorem dX6_init_32 : decode cX6_init 32 = .ok (.bipush 60, 2) := by decide +kernel
theorem dX6_init_34 : decode cX6_init 34 = .ok (.newarray .int, 2) := by decide +kernel
theorem dX6_init_36 : decode cX6_init 36 = .ok (.putfield 19, 3) := by decide +kernel
theorem dX6_init_39 : decode cX6_init 39 = .ok (.aload_n 0, 1) := by decide +kernel
theorem dX6_init_40 : decode cX6_init 40 = .ok (.iconst 3, 1) := by decide +kernel
theorem dX6_init_41 : decode cX6_init 41 = .ok (.newarray .int, 2) := by decide +kernel
theorem dX6_init_43 : decode cX6_init 43 = .ok (.putfield 22, 3) := by decide +kernel
theorem dX6_init_46 : decode cX6_init 46 = .ok (.aload_n 0, 1) := by decide +kernel
theorem dX6_init_47 : decode cX6_init 47 = .ok (.bipush 12, 2) := by decide +kernel
theorem dX6_init_49 : decode cX6_init 49 = .ok (.newarray .int, 2) := by decide +kernel
theorem dX6_init_51 : decode cX6_init 51 = .ok (.putfield 25, 3) := by decide +kernel
theorem dX6_init_54 : decode cX6_init 54 = .ok (.aload_n 0, 1) := by decide +kernel
theorem dX6_init_55 : decode cX6_init 55 = .ok (.bipush 12, 2) := by decide +kernel
theorem dX6_init_57 : decode cX6_init 57 = .ok (.newarray .int, 2) := by decide +kernel
theorem dX6_init_59 : decode cX6_init 59 = .ok (.putfield 28, 3) := by decide +kernel
theorem dX6_init_62 : decode cX6_init 62 = .ok (.aload_n 0, 1) := by decide +kernel
theorem dX6_init_63 : decode cX6_init 63 = .ok (.bipush 13, 2) := by decide +kernel
theorem dX6_init_65 : decode cX6_init 65 = .ok (.newarray .int, 2) := by decide +kernel
theorem dX6_init_67 : decode cX6_init 67 = .ok (.putfield 31, 3) := by decide +kernel
theorem dX6_init_70 : decode cX6_init 70 = .ok (.aload_n 0, 1) := by decide +kernel
theorem dX6_init_71 : decode cX6_init 71 = .ok (.getfield 7, 3) := by decide +kernel
theorem dX6_init_74 : decode cX6_init 74 = .ok (.iconst 1, 1) := by decide +kernel
theorem dX6_init_75 : decode cX6_init 75 = .ok (.bipush 8, 2) := by decide +kernel
theorem dX6_init_77 : decode cX6_init 77 = .ok (.iastore, 1) := by decide +kernel
theorem dX6_init_78 : decode cX6_init 78 = .ok (.aload_n 0, 1) := by decide +kernel
theorem dX6_init_79 : decode cX6_init 79 = .ok (.getfield 7, 3) := by decide +kernel
theorem dX6_init_82 : decode cX6_init 82 = .ok (.iconst 2, 1) := by decide +kernel
theorem dX6_init_83 : decode cX6_init 83 = .ok (.bipush 15, 2) := by decide +kernel
theorem dX6_init_85 : decode cX6_init 85 = .ok (.iastore, 1) := by decide +kernel
theorem dX6_init_86 : decode cX6_init 86 = .ok (.iconst 0, 1) := by decide +kernel
theorem dX6_init_87 : decode cX6_init 87 = .ok (.istore_n 1, 1) := by decide +kernel
theorem dX6_init_88 : decode cX6_init 88 = .ok (.iload_n 1, 1) := by decide +kernel
theorem dX6_init_89 : decode cX6_init 89 = .ok (.bipush 6, 2) := by decide +kernel
theorem dX6_init_91 : decode cX6_init 91 = .ok (.if_icmp .ge 21, 3) := by decide +kernel
theorem dX6_init_94 : decode cX6_init 94 = .ok (.aload_n 0, 1) := by decide +kernel
theorem dX6_init_95 : decode cX6_init 95 = .ok (.getfield 7, 3) := by decide +kernel
theorem dX6_init_98 : decode cX6_init 98 = .ok (.bipush 7, 2) := by decide +kernel
theorem dX6_init_100 : decode cX6_init 100 = .ok (.iload_n 1, 1) := by decide +kernel
theorem dX6_init_101 : decode cX6_init 101 = .ok (.iadd, 1) := by decide +kernel
theorem dX6_init_102 : decode cX6_init 102 = .ok (.iload_n 1, 1) := by decide +kernel
theorem dX6_init_103 : decode cX6_init 103 = .ok (.iconst 1, 1) := by decide +kernel
theorem dX6_init_104 : decode cX6_init 104 = .ok (.iadd, 1) := by decide +kernel
theorem dX6_init_105 : decode cX6_init 105 = .ok (.iastore, 1) := by decide +kernel
theorem dX6_init_106 : decode cX6_init 106 = .ok (.iinc 1 1, 3) := by decide +kernel
theorem dX6_init_109 : decode cX6_init 109 = .ok (.goto (-21), 3) := by decide +kernel
theorem dX6_init_112 : decode cX6_init 112 = .ok (.return_, 1) := by decide +kernel
theorem dX6_in_0 : decode cX6_in 0 = .ok (.iload_n 0, 1) := by decide +kernel
theorem dX6_in_1 : decode cX6_in 1 = .ok (.iload_n 1, 1) := by decide +kernel
theorem dX6_in_2 : decode cX6_in 2 = .ok (.if_icmp .lt 12, 3) := by decide +kernel
theorem dX6_in_5 : decode cX6_in 5 = .ok (.iload_n 0, 1) := by decide +kernel
theorem dX6_in_6 : decode cX6_in 6 = .ok (.iload_n 2, 1) := by decide +kernel
theorem dX6_in_7 : decode cX6_in 7 = .ok (.if_icmp .gt 7, 3) := by decide +kernel
theorem dX6_in_10 : decode cX6_in 10 = .ok (.iconst 1, 1) := by decide +kernel
theorem dX6_in_11 : decode cX6_in 11 = .ok (.goto 4, 3) := by decide +kernel
theorem dX6_in_14 : decode cX6_in 14 = .ok (.iconst 0, 1) := by decide +kernel
theorem dX6_in_15 : decode cX6_in 15 = .ok (.ireturn, 1) := by decide +kernel
theorem dX6_copies_0 : decode cX6_copies 0 = .ok (.iconst 0, 1) := by decide +kernel
theorem dX6_copies_1 : decode cX6_copies 1 = .ok (.istore 4, 2) := by decide +kernel
theorem dX6_copies_3 : decode cX6_copies 3 = .ok (.iload 4, 2) := by decide +kernel
theorem dX6_copies_5 : decode cX6_copies 5 = .ok (.sipush 137, 3) := by decide +kernel
theorem dX6_copies_8 : decode cX6_copies 8 = .ok (.if_icmp .ge 21, 3) := by decide +kernel
theorem dX6_copies_11 : decode cX6_copies 11 = .ok (.aload_n 2, 1) := by decide +kernel
theorem dX6_copies_12 : decode cX6_copies 12 = .ok (.iload_n 3, 1) := by decide +kernel
theorem dX6_copies_13 : decode cX6_copies 13 = .ok (.iload 4, 2) := by decide +kernel
theorem dX6_copies_15 : decode cX6_copies 15 = .ok (.iadd, 1) := by decide +kernel
theorem dX6_copies_16 : decode cX6_copies 16 = .ok (.aload_n 0, 1) := by decide +kernel
theorem dX6_copies_17 : decode cX6_copies 17 = .ok (.iload_n 1, 1) := by decide +kernel
theorem dX6_copies_18 : decode cX6_copies 18 = .ok (.iload 4, 2) := by decide +kernel
theorem dX6_copies_20 : decode cX6_copies 20 = .ok (.iadd, 1) := by decide +kernel
theorem dX6_copies_21 : decode cX6_copies 21 = .ok (.iaload, 1) := by decide +kernel
theorem dX6_copies_22 : decode cX6_copies 22 = .ok (.iastore, 1) := by decide +kernel
theorem dX6_copies_23 : decode cX6_copies 23 = .ok (.iinc 4 1, 3) := by decide +kernel
theorem dX6_copies_26 : decode cX6_copies 26 = .ok (.goto (-23), 3) := by decide +kernel
theorem dX6_copies_29 : decode cX6_copies 29 = .ok (.return_, 1) := by decide +kernel
theorem dX6_records_0 : decode cX6_records 0 = .ok (.aload_n 0, 1) := by decide +kernel
theorem dX6_records_1 : decode cX6_records 1 = .ok (.getfield 34, 3) := by decide +kernel
theorem dX6_records_4 : decode cX6_records 4 = .ok (.iconst 4, 1) := by decide +kernel
theorem dX6_records_5 : decode cX6_records 5 = .ok (.if_icmp .ne 44, 3) := by decide +kernel
theorem dX6_records_8 : decode cX6_records 8 = .ok (.iconst 0, 1) := by decide +kernel
theorem dX6_records_9 : decode cX6_records 9 = .ok (.istore_n 1, 1) := by decide +kernel
theorem dX6_records_10 : decode cX6_records 10 = .ok (.iload_n 1, 1) := by decide +kernel
theorem dX6_records_11 : decode cX6_records 11 = .ok (.sipush 411, 3) := by decide +kernel
theorem dX6_records_14 : decode cX6_records 14 = .ok (.if_icmp .ge 25, 3) := by decide +kernel
theorem dX6_records_17 : decode cX6_records 17 = .ok (.aload_n 0, 1) := by decide +kernel
theorem dX6_records_18 : decode cX6_records 18 = .ok (.getfield 13, 3) := by decide +kernel
theorem dX6_records_21 : decode cX6_records 21 = .ok (.iload_n 1, 1) := by decide +kernel
theorem dX6_records_22 : decode cX6_records 22 = .ok (.aload_n 0, 1) := by decide +kernel
theorem dX6_records_23 : decode cX6_records 23 = .ok (.getfield 13, 3) := by decide +kernel
theorem dX6_records_26 : decode cX6_records 26 = .ok (.iload_n 1, 1) := by decide +kernel
theorem dX6_records_27 : decode cX6_records 27 = .ok (.sipush 137, 3) := by decide +kernel
theorem dX6_records_30 : decode cX6_records 30 = .ok (.iadd, 1) := by decide +kernel
theorem dX6_records_31 : decode cX6_records 31 = .ok (.iaload, 1) := by decide +kernel
theorem dX6_records_32 : decode cX6_records 32 = .ok (.iastore, 1) := by decide +kernel
theorem dX6_records_33 : decode cX6_records 33 = .ok (.iinc 1 1, 3) := by decide +kernel
theorem dX6_records_36 : decode cX6_records 36 = .ok (.goto (-26), 3) := by decide +kernel
theorem dX6_records_39 : decode cX6_records 39 = .ok (.aload_n 0, 1) := by decide +kernel
theorem dX6_records_40 : decode cX6_records 40 = .ok (.dup, 1) := by decide +kernel
theorem dX6_records_41 : decode cX6_records 41 = .ok (.getfield 34, 3) := by decide +kernel
theorem dX6_records_44 : decode cX6_records 44 = .ok (.iconst 1, 1) := by decide +kernel
theorem dX6_records_45 : decode cX6_records 45 = .ok (.isub, 1) := by decide +kernel
theorem dX6_records_46 : decode cX6_records 46 = .ok (.putfield 34, 3) := by decide +kernel
theorem dX6_records_49 : decode cX6_records 49 = .ok (.aload_n 0, 1) := by decide +kernel
theorem dX6_records_50 : decode cX6_records 50 = .ok (.getfield 7, 3) := by decide +kernel
theorem dX6_records_53 : decode cX6_records 53 = .ok (.iconst 0, 1) := by decide +kernel
theorem dX6_records_54 : decode cX6_records 54 = .ok (.aload_n 0, 1) := by decide +kernel
theorem dX6_records_55 : decode cX6_records 55 = .ok (.getfield 13, 3) := by decide +kernel
theorem dX6_records_58 : decode cX6_records 58 = .ok (.sipush 137, 3) := by decide +kernel
theorem dX6_records_61 : decode cX6_records 61 = .ok (.aload_n 0, 1) := by decide +kernel
theorem dX6_records_62 : decode cX6_records 62 = .ok (.getfield 34, 3) := by decide +kernel
theorem dX6_records_65 : decode cX6_records 65 = .ok (.imul, 1) := by decide +kernel
theorem dX6_records_66 : decode cX6_records 66 = .ok (.invokestatic 38, 3) := by decide +kernel
theorem dX6_records_69 : decode cX6_records 69 = .ok (.aload_n 0, 1) := by decide +kernel
theorem dX6_records_70 : decode cX6_records 70 = .ok (.dup, 1) := by decide +kernel
theorem dX6_records_71 : decode cX6_records 71 = .ok (.getfield 34, 3) := by decide +kernel
theorem dX6_records_74 : decode cX6_records 74 = .ok (.iconst 1, 1) := by decide +kernel
theorem dX6_records_75 : decode cX6_records 75 = .ok (.iadd, 1) := by decide +kernel
theorem dX6_records_76 : decode cX6_records 76 = .ok (.putfield 34, 3) := by decide +kernel
theorem dX6_records_79 : decode cX6_records 79 = .ok (.return_, 1) := by decide +kernel
theorem dX6_ones_0 : decode cX6_ones 0 = .ok (.iconst 0, 1) := by decide +kernel
theorem dX6_ones_1 : decode cX6_ones 1 = .ok (.istore_n 1, 1) := by decide +kernel
theorem dX6_ones_2 : decode cX6_ones 2 = .ok (.iconst 0, 1) := by decide +kernel
theorem dX6_ones_3 : decode cX6_ones 3 = .ok (.istore_n 2, 1) := by decide +kernel
theorem dX6_ones_4 : decode cX6_ones 4 = .ok (.iload_n 2, 1) := by decide +kernel
theorem dX6_ones_5 : decode cX6_ones 5 = .ok (.bipush 12, 2) := by decide +kernel
theorem dX6_ones_7 : decode cX6_ones 7 = .ok (.if_icmp .ge 17, 3) := by decide +kernel
theorem dX6_ones_10 : decode cX6_ones 10 = .ok (.iload_n 1, 1) := by decide +kernel
theorem dX6_ones_11 : decode cX6_ones 11 = .ok (.iload_n 0, 1) := by decide +kernel
theorem dX6_ones_12 : decode cX6_ones 12 = .ok (.iload_n 2, 1) := by decide +kernel
theorem dX6_ones_13 : decode cX6_ones 13 = .ok (.ishr, 1) := by decide +kernel
theorem dX6_ones_14 : decode cX6_ones 14 = .ok (.iconst 1, 1) := by decide +kernel
theorem dX6_ones_15 : decode cX6_ones 15 = .ok (.iand, 1) := by decide +kernel
theorem dX6_ones_16 : decode cX6_ones 16 = .ok (.iadd, 1) := by decide +kernel
theorem dX6_ones_17 : decode cX6_ones 17 = .ok (.istore_n 1, 1) := by decide +kernel
theorem dX6_ones_18 : decode cX6_ones 18 = .ok (.iinc 2 1, 3) := by decide +kernel
theorem dX6_ones_21 : decode cX6_ones 21 = .ok (.goto (-17), 3) := by decide +kernel
theorem dX6_ones_24 : decode cX6_ones 24 = .ok (.iload_n 1, 1) := by decide +kernel
theorem dX6_ones_25 : decode cX6_ones 25 = .ok (.ireturn, 1) := by decide +kernel
theorem dX6_isKind_0 : decode cX6_isKind 0 = .ok (.iload_n 0, 1) := by decide +kernel
theorem dX6_isKind_1 : decode cX6_isKind 1 = .ok (.iconst 0, 1) := by decide +kernel
theorem dX6_isKind_2 : decode cX6_isKind 2 = .ok (.iconst 5, 1) := by decide +kernel
theorem dX6_isKind_3 : decode cX6_isKind 3 = .ok (.invokestatic 42, 3) := by decide +kernel
theorem dX6_isKind_6 : decode cX6_isKind 6 = .ok (.ireturn, 1) := by decide +kernel
theorem dX6_isRuling_0 : decode cX6_isRuling 0 = .ok (.iload_n 1, 1) := by decide +kernel
theorem dX6_isRuling_1 : decode cX6_isRuling 1 = .ok (.iconst 0, 1) := by decide +kernel
theorem dX6_isRuling_2 : decode cX6_isRuling 2 = .ok (.aload_n 0, 1) := by decide +kernel
theorem dX6_isRuling_3 : decode cX6_isRuling 3 = .ok (.getfield 7, 3) := by decide +kernel
theorem dX6_isRuling_6 : decode cX6_isRuling 6 = .ok (.iconst 4, 1) := by decide +kernel
theorem dX6_isRuling_7 : decode cX6_isRuling 7 = .ok (.iaload, 1) := by decide +kernel
theorem dX6_isRuling_8 : decode cX6_isRuling 8 = .ok (.iconst 1, 1) := by decide +kernel
theorem dX6_isRuling_9 : decode cX6_isRuling 9 = .ok (.isub, 1) := by decide +kernel
theorem dX6_isRuling_10 : decode cX6_isRuling 10 = .ok (.invokestatic 42, 3) := by decide +kernel
theorem dX6_isRuling_13 : decode cX6_isRuling 13 = .ok (.ireturn, 1) := by decide +kernel
theorem dX6_ofRuling_0 : decode cX6_ofRuling 0 = .ok (.aload_n 0, 1) := by decide +kernel
theorem dX6_ofRuling_1 : decode cX6_ofRuling 1 = .ok (.getfield 7, 3) := by decide +kernel
theorem dX6_ofRuling_4 : decode cX6_ofRuling 4 = .ok (.bipush 13, 2) := by decide +kernel
theorem dX6_ofRuling_6 : decode cX6_ofRuling 6 = .ok (.bipush 6, 2) := by decide +kernel
theorem dX6_ofRuling_8 : decode cX6_ofRuling 8 = .ok (.iload_n 1, 1) := by decide +kernel
theorem dX6_ofRuling_9 : decode cX6_ofRuling 9 = .ok (.imul, 1) := by decide +kernel
theorem dX6_ofRuling_10 : decode cX6_ofRuling 10 = .ok (.iadd, 1) := by decide +kernel
theorem dX6_ofRuling_11 : decode cX6_ofRuling 11 = .ok (.iload_n 2, 1) := by decide +kernel
theorem dX6_ofRuling_12 : decode cX6_ofRuling 12 = .ok (.iadd, 1) := by decide +kernel
theorem dX6_ofRuling_13 : decode cX6_ofRuling 13 = .ok (.iaload, 1) := by decide +kernel
theorem dX6_ofRuling_14 : decode cX6_ofRuling 14 = .ok (.ireturn, 1) := by decide +kernel
theorem dX6_isForce_0 : decode cX6_isForce 0 = .ok (.iconst 1, 1) := by decide +kernel
theorem dX6_isForce_1 : decode cX6_isForce 1 = .ok (.istore_n 2, 1) := by decide +kernel
theorem dX6_isForce_2 : decode cX6_isForce 2 = .ok (.iload_n 1, 1) := by decide +kernel
theorem dX6_isForce_3 : decode cX6_isForce 3 = .ok (.istore_n 3, 1) := by decide +kernel
theorem dX6_isForce_4 : decode cX6_isForce 4 = .ok (.iload_n 3, 1) := by decide +kernel
theorem dX6_isForce_5 : decode cX6_isForce 5 = .ok (.ifCond .lt 34, 3) := by decide +kernel
theorem dX6_isForce_8 : decode cX6_isForce 8 = .ok (.iload_n 2, 1) := by decide +kernel
theorem dX6_isForce_9 : decode cX6_isForce 9 = .ok (.ifCond .eq 16, 3) := by decide +kernel
theorem dX6_isForce_12 : decode cX6_isForce 12 = .ok (.aload_n 0, 1) := by decide +kernel
theorem dX6_isForce_13 : decode cX6_isForce 13 = .ok (.iload_n 3, 1) := by decide +kernel
theorem dX6_isForce_14 : decode cX6_isForce 14 = .ok (.iconst 5, 1) := by decide +kernel
theorem dX6_isForce_15 : decode cX6_isForce 15 = .ok (.invokevirtual 46, 3) := by decide +kernel
theorem dX6_isForce_18 : decode cX6_isForce 18 = .ok (.ifCond .ne 7, 3) := by decide +kernel
theorem dX6_isForce_21 : decode cX6_isForce 21 = .ok (.iconst 1, 1) := by decide +kernel
theorem dX6_isForce_22 : decode cX6_isForce 22 = .ok (.goto 4, 3) := by decide +kernel
theorem dX6_isForce_25 : decode cX6_isForce 25 = .ok (.iconst 0, 1) := by decide +kernel
theorem dX6_isForce_26 : decode cX6_isForce 26 = .ok (.istore_n 2, 1) := by decide +kernel
theorem dX6_isForce_27 : decode cX6_isForce 27 = .ok (.aload_n 0, 1) := by decide +kernel
theorem dX6_isForce_28 : decode cX6_isForce 28 = .ok (.iload_n 3, 1) := by decide +kernel
theorem dX6_isForce_29 : decode cX6_isForce 29 = .ok (.iconst 4, 1) := by decide +kernel
theorem dX6_isForce_30 : decode cX6_isForce 30 = .ok (.invokevirtual 46, 3) := by decide +kernel
theorem dX6_isForce_33 : decode cX6_isForce 33 = .ok (.iconst 1, 1) := by decide +kernel
theorem dX6_isForce_34 : decode cX6_isForce 34 = .ok (.isub, 1) := by decide +kernel
theorem dX6_isForce_35 : decode cX6_isForce 35 = .ok (.istore_n 3, 1) := by decide +kernel
theorem dX6_isForce_36 : decode cX6_isForce 36 = .ok (.goto (-32), 3) := by decide +kernel
theorem dX6_isForce_39 : decode cX6_isForce 39 = .ok (.iload_n 2, 1) := by decide +kernel
theorem dX6_isForce_40 : decode cX6_isForce 40 = .ok (.ireturn, 1) := by decide +kernel
theorem dX6_inForce_0 : decode cX6_inForce 0 = .ok (.iconst 0, 1) := by decide +kernel
theorem dX6_inForce_1 : decode cX6_inForce 1 = .ok (.istore_n 1, 1) := by decide +kernel
theorem dX6_inForce_2 : decode cX6_inForce 2 = .ok (.iconst 0, 1) := by decide +kernel
theorem dX6_inForce_3 : decode cX6_inForce 3 = .ok (.istore_n 2, 1) := by decide +kernel
theorem dX6_inForce_4 : decode cX6_inForce 4 = .ok (.iload_n 2, 1) := by decide +kernel
theorem dX6_inForce_5 : decode cX6_inForce 5 = .ok (.aload_n 0, 1) := by decide +kernel
theorem dX6_inForce_6 : decode cX6_inForce 6 = .ok (.getfield 7, 3) := by decide +kernel
theorem dX6_inForce_9 : decode cX6_inForce 9 = .ok (.iconst 4, 1) := by decide +kernel
theorem dX6_inForce_10 : decode cX6_inForce 10 = .ok (.iaload, 1) := by decide +kernel
theorem dX6_inForce_11 : decode cX6_inForce 11 = .ok (.if_icmp .ge 25, 3) := by decide +kernel
theorem dX6_inForce_14 : decode cX6_inForce 14 = .ok (.iload_n 1, 1) := by decide +kernel
theorem dX6_inForce_15 : decode cX6_inForce 15 = .ok (.aload_n 0, 1) := by decide +kernel
theorem dX6_inForce_16 : decode cX6_inForce 16 = .ok (.iload_n 2, 1) := by decide +kernel
theorem dX6_inForce_17 : decode cX6_inForce 17 = .ok (.invokevirtual 50, 3) := by decide +kernel
theorem dX6_inForce_20 : decode cX6_inForce 20 = .ok (.ifCond .eq 7, 3) := by decide +kernel
theorem dX6_inForce_23 : decode cX6_inForce 23 = .ok (.iconst 1, 1) := by decide +kernel
theorem dX6_inForce_24 : decode cX6_inForce 24 = .ok (.goto 4, 3) := by decide +kernel
theorem dX6_inForce_27 : decode cX6_inForce 27 = .ok (.iconst 0, 1) := by decide +kernel
theorem dX6_inForce_28 : decode cX6_inForce 28 = .ok (.iadd, 1) := by decide +kernel
theorem dX6_inForce_29 : decode cX6_inForce 29 = .ok (.istore_n 1, 1) := by decide +kernel
theorem dX6_inForce_30 : decode cX6_inForce 30 = .ok (.iinc 2 1, 3) := by decide +kernel
theorem dX6_inForce_33 : decode cX6_inForce 33 = .ok (.goto (-29), 3) := by decide +kernel
theorem dX6_inForce_36 : decode cX6_inForce 36 = .ok (.iload_n 1, 1) := by decide +kernel
theorem dX6_inForce_37 : decode cX6_inForce 37 = .ok (.ireturn, 1) := by decide +kernel
theorem dX6_counting_0 : decode cX6_counting 0 = .ok (.bipush (-4), 2) := by decide +kernel
theorem dX6_counting_2 : decode cX6_counting 2 = .ok (.istore_n 3, 1) := by decide +kernel
theorem dX6_counting_3 : decode cX6_counting 3 = .ok (.iconst 0, 1) := by decide +kernel
theorem dX6_counting_4 : decode cX6_counting 4 = .ok (.istore 4, 2) := by decide +kernel
theorem dX6_counting_6 : decode cX6_counting 6 = .ok (.iload 4, 2) := by decide +kernel
theorem dX6_counting_8 : decode cX6_counting 8 = .ok (.aload_n 0, 1) := by decide +kernel
theorem dX6_counting_9 : decode cX6_counting 9 = .ok (.getfield 7, 3) := by decide +kernel
theorem dX6_counting_12 : decode cX6_counting 12 = .ok (.iconst 4, 1) := by decide +kernel
theorem dX6_counting_13 : decode cX6_counting 13 = .ok (.iaload, 1) := by decide +kernel
theorem dX6_counting_14 : decode cX6_counting 14 = .ok (.if_icmp .ge 59, 3) := by decide +kernel
theorem dX6_counting_17 : decode cX6_counting 17 = .ok (.aload_n 0, 1) := by decide +kernel
theorem dX6_counting_18 : decode cX6_counting 18 = .ok (.iload 4, 2) := by decide +kernel
theorem dX6_counting_20 : decode cX6_counting 20 = .ok (.iconst 0, 1) := by decide +kernel
theorem dX6_counting_21 : decode cX6_counting 21 = .ok (.invokevirtual 46, 3) := by decide +kernel
theorem dX6_counting_24 : decode cX6_counting 24 = .ok (.iload_n 1, 1) := by decide +kernel
theorem dX6_counting_25 : decode cX6_counting 25 = .ok (.if_icmp .ne 18, 3) := by decide +kernel
theorem dX6_counting_28 : decode cX6_counting 28 = .ok (.aload_n 0, 1) := by decide +kernel
theorem dX6_counting_29 : decode cX6_counting 29 = .ok (.iload 4, 2) := by decide +kernel
theorem dX6_counting_31 : decode cX6_counting 31 = .ok (.iconst 1, 1) := by decide +kernel
theorem dX6_counting_32 : decode cX6_counting 32 = .ok (.invokevirtual 46, 3) := by decide +kernel
theorem dX6_counting_35 : decode cX6_counting 35 = .ok (.iload_n 2, 1) := by decide +kernel
theorem dX6_counting_36 : decode cX6_counting 36 = .ok (.if_icmp .ne 7, 3) := by decide +kernel
theorem dX6_counting_39 : decode cX6_counting 39 = .ok (.iconst 1, 1) := by decide +kernel
theorem dX6_counting_40 : decode cX6_counting 40 = .ok (.goto 4, 3) := by decide +kernel
theorem dX6_counting_43 : decode cX6_counting 43 = .ok (.iconst 0, 1) := by decide +kernel
theorem dX6_counting_44 : decode cX6_counting 44 = .ok (.istore 5, 2) := by decide +kernel
theorem dX6_counting_46 : decode cX6_counting 46 = .ok (.iload 5, 2) := by decide +kernel
theorem dX6_counting_48 : decode cX6_counting 48 = .ok (.ifCond .eq 17, 3) := by decide +kernel
theorem dX6_counting_51 : decode cX6_counting 51 = .ok (.aload_n 0, 1) := by decide +kernel
theorem dX6_counting_52 : decode cX6_counting 52 = .ok (.iload 4, 2) := by decide +kernel
theorem dX6_counting_54 : decode cX6_counting 54 = .ok (.invokevirtual 50, 3) := by decide +kernel
theorem dX6_counting_57 : decode cX6_counting 57 = .ok (.ifCond .eq 8, 3) := by decide +kernel
theorem dX6_counting_60 : decode cX6_counting 60 = .ok (.iload 4, 2) := by decide +kernel
theorem dX6_counting_62 : decode cX6_counting 62 = .ok (.goto 4, 3) := by decide +kernel
theorem dX6_counting_65 : decode cX6_counting 65 = .ok (.iload_n 3, 1) := by decide +kernel
theorem dX6_counting_66 : decode cX6_counting 66 = .ok (.istore_n 3, 1) := by decide +kernel
theorem dX6_counting_67 : decode cX6_counting 67 = .ok (.iinc 4 1, 3) := by decide +kernel
theorem dX6_counting_70 : decode cX6_counting 70 = .ok (.goto (-64), 3) := by decide +kernel
theorem dX6_counting_73 : decode cX6_counting 73 = .ok (.iload_n 3, 1) := by decide +kernel
theorem dX6_counting_74 : decode cX6_counting 74 = .ok (.ireturn, 1) := by decide +kernel
theorem dX6_doesCount_0 : decode cX6_doesCount 0 = .ok (.aload_n 0, 1) := by decide +kernel
theorem dX6_doesCount_1 : decode cX6_doesCount 1 = .ok (.aload_n 0, 1) := by decide +kernel
theorem dX6_doesCount_2 : decode cX6_doesCount 2 = .ok (.iload_n 1, 1) := by decide +kernel
theorem dX6_doesCount_3 : decode cX6_doesCount 3 = .ok (.iconst 0, 1) := by decide +kernel
theorem dX6_doesCount_4 : decode cX6_doesCount 4 = .ok (.invokevirtual 46, 3) := by decide +kernel
theorem dX6_doesCount_7 : decode cX6_doesCount 7 = .ok (.aload_n 0, 1) := by decide +kernel
theorem dX6_doesCount_8 : decode cX6_doesCount 8 = .ok (.iload_n 1, 1) := by decide +kernel
theorem dX6_doesCount_9 : decode cX6_doesCount 9 = .ok (.iconst 1, 1) := by decide +kernel
theorem dX6_doesCount_10 : decode cX6_doesCount 10 = .ok (.invokevirtual 46, 3) := by decide +kernel
theorem dX6_doesCount_13 : decode cX6_doesCount 13 = .ok (.invokevirtual 54, 3) := by decide +kernel
theorem dX6_doesCount_16 : decode cX6_doesCount 16 = .ok (.iload_n 1, 1) := by decide +kernel
theorem dX6_doesCount_17 : decode cX6_doesCount 17 = .ok (.if_icmp .ne 7, 3) := by decide +kernel
theorem dX6_doesCount_20 : decode cX6_doesCount 20 = .ok (.iconst 1, 1) := by decide +kernel
theorem dX6_doesCount_21 : decode cX6_doesCount 21 = .ok (.goto 4, 3) := by decide +kernel
theorem dX6_doesCount_24 : decode cX6_doesCount 24 = .ok (.iconst 0, 1) := by decide +kernel
theorem dX6_doesCount_25 : decode cX6_doesCount 25 = .ok (.ireturn, 1) := by decide +kernel
theorem dX6_isEdition_0 : decode cX6_isEdition 0 = .ok (.iload_n 1, 1) := by decide +kernel
theorem dX6_isEdition_1 : decode cX6_isEdition 1 = .ok (.iconst 0, 1) := by decide +kernel
theorem dX6_isEdition_2 : decode cX6_isEdition 2 = .ok (.aload_n 0, 1) := by decide +kernel
theorem dX6_isEdition_3 : decode cX6_isEdition 3 = .ok (.getfield 7, 3) := by decide +kernel
theorem dX6_isEdition_6 : decode cX6_isEdition 6 = .ok (.iconst 3, 1) := by decide +kernel
theorem dX6_isEdition_7 : decode cX6_isEdition 7 = .ok (.iaload, 1) := by decide +kernel
theorem dX6_isEdition_8 : decode cX6_isEdition 8 = .ok (.iconst 1, 1) := by decide +kernel
theorem dX6_isEdition_9 : decode cX6_isEdition 9 = .ok (.isub, 1) := by decide +kernel
theorem dX6_isEdition_10 : decode cX6_isEdition 10 = .ok (.invokestatic 42, 3) := by decide +kernel
theorem dX6_isEdition_13 : decode cX6_isEdition 13 = .ok (.ireturn, 1) := by decide +kernel
theorem dX6_of_0 : decode cX6_of 0 = .ok (.aload_n 0, 1) := by decide +kernel
theorem dX6_of_1 : decode cX6_of 1 = .ok (.getfield 7, 3) := by decide +kernel
theorem dX6_of_4 : decode cX6_of 4 = .ok (.bipush 73, 2) := by decide +kernel
theorem dX6_of_6 : decode cX6_of 6 = .ok (.bipush 16, 2) := by decide +kernel
theorem dX6_of_8 : decode cX6_of 8 = .ok (.iload_n 1, 1) := by decide +kernel
theorem dX6_of_9 : decode cX6_of 9 = .ok (.imul, 1) := by decide +kernel
theorem dX6_of_10 : decode cX6_of 10 = .ok (.iadd, 1) := by decide +kernel
theorem dX6_of_11 : decode cX6_of 11 = .ok (.iload_n 2, 1) := by decide +kernel
theorem dX6_of_12 : decode cX6_of 12 = .ok (.iadd, 1) := by decide +kernel
theorem dX6_of_13 : decode cX6_of 13 = .ok (.iaload, 1) := by decide +kernel
theorem dX6_of_14 : decode cX6_of 14 = .ok (.ireturn, 1) := by decide +kernel
theorem dX6_lays_0 : decode cX6_lays 0 = .ok (.aload_n 0, 1) := by decide +kernel
theorem dX6_lays_1 : decode cX6_lays 1 = .ok (.getfield 7, 3) := by decide +kernel
theorem dX6_lays_4 : decode cX6_lays 4 = .ok (.bipush 73, 2) := by decide +kernel
theorem dX6_lays_6 : decode cX6_lays 6 = .ok (.bipush 16, 2) := by decide +kernel
theorem dX6_lays_8 : decode cX6_lays 8 = .ok (.iload_n 1, 1) := by decide +kernel
theorem dX6_lays_9 : decode cX6_lays 9 = .ok (.imul, 1) := by decide +kernel
theorem dX6_lays_10 : decode cX6_lays 10 = .ok (.iadd, 1) := by decide +kernel
theorem dX6_lays_11 : decode cX6_lays 11 = .ok (.iload_n 2, 1) := by decide +kernel
theorem dX6_lays_12 : decode cX6_lays 12 = .ok (.iadd, 1) := by decide +kernel
theorem dX6_lays_13 : decode cX6_lays 13 = .ok (.iload_n 3, 1) := by decide +kernel
theorem dX6_lays_14 : decode cX6_lays 14 = .ok (.iastore, 1) := by decide +kernel
theorem dX6_lays_15 : decode cX6_lays 15 = .ok (.return_, 1) := by decide +kernel
theorem dX6_isGap_0 : decode cX6_isGap 0 = .ok (.aload_n 0, 1) := by decide +kernel
theorem dX6_isGap_1 : decode cX6_isGap 1 = .ok (.iload_n 1, 1) := by decide +kernel
theorem dX6_isGap_2 : decode cX6_isGap 2 = .ok (.invokevirtual 57, 3) := by decide +kernel
theorem dX6_isGap_5 : decode cX6_isGap 5 = .ok (.ifCond .eq 23, 3) := by decide +kernel
theorem dX6_isGap_8 : decode cX6_isGap 8 = .ok (.iload_n 2, 1) := by decide +kernel
theorem dX6_isGap_9 : decode cX6_isGap 9 = .ok (.iconst 0, 1) := by decide +kernel
theorem dX6_isGap_10 : decode cX6_isGap 10 = .ok (.aload_n 0, 1) := by decide +kernel
theorem dX6_isGap_11 : decode cX6_isGap 11 = .ok (.iload_n 1, 1) := by decide +kernel
theorem dX6_isGap_12 : decode cX6_isGap 12 = .ok (.iconst 0, 1) := by decide +kernel
theorem dX6_isGap_13 : decode cX6_isGap 13 = .ok (.invokevirtual 60, 3) := by decide +kernel
theorem dX6_isGap_16 : decode cX6_isGap 16 = .ok (.iconst 2, 1) := by decide +kernel
theorem dX6_isGap_17 : decode cX6_isGap 17 = .ok (.isub, 1) := by decide +kernel
theorem dX6_isGap_18 : decode cX6_isGap 18 = .ok (.invokestatic 42, 3) := by decide +kernel
theorem dX6_isGap_21 : decode cX6_isGap 21 = .ok (.ifCond .eq 7, 3) := by decide +kernel
theorem dX6_isGap_24 : decode cX6_isGap 24 = .ok (.iconst 1, 1) := by decide +kernel
theorem dX6_isGap_25 : decode cX6_isGap 25 = .ok (.goto 4, 3) := by decide +kernel
theorem dX6_isGap_28 : decode cX6_isGap 28 = .ok (.iconst 0, 1) := by decide +kernel
theorem dX6_isGap_29 : decode cX6_isGap 29 = .ok (.ireturn, 1) := by decide +kernel
theorem dX6_wordOf_0 : decode cX6_wordOf 0 = .ok (.aload_n 0, 1) := by decide +kernel
theorem dX6_wordOf_1 : decode cX6_wordOf 1 = .ok (.iload_n 1, 1) := by decide +kernel
theorem dX6_wordOf_2 : decode cX6_wordOf 2 = .ok (.iconst 4, 1) := by decide +kernel
theorem dX6_wordOf_3 : decode cX6_wordOf 3 = .ok (.iload_n 2, 1) := by decide +kernel
theorem dX6_wordOf_4 : decode cX6_wordOf 4 = .ok (.iadd, 1) := by decide +kernel
theorem dX6_wordOf_5 : decode cX6_wordOf 5 = .ok (.invokevirtual 60, 3) := by decide +kernel
theorem dX6_wordOf_8 : decode cX6_wordOf 8 = .ok (.ireturn, 1) := by decide +kernel
theorem dX6_weightOf_0 : decode cX6_weightOf 0 = .ok (.aload_n 0, 1) := by decide +kernel
theorem dX6_weightOf_1 : decode cX6_weightOf 1 = .ok (.getfield 7, 3) := by decide +kernel
theorem dX6_weightOf_4 : decode cX6_weightOf 4 = .ok (.bipush 7, 2) := by decide +kernel
theorem dX6_weightOf_6 : decode cX6_weightOf 6 = .ok (.aload_n 0, 1) := by decide +kernel
theorem dX6_weightOf_7 : decode cX6_weightOf 7 = .ok (.iload_n 1, 1) := by decide +kernel
theorem dX6_weightOf_8 : decode cX6_weightOf 8 = .ok (.iload_n 2, 1) := by decide +kernel
theorem dX6_weightOf_9 : decode cX6_weightOf 9 = .ok (.invokevirtual 63, 3) := by decide +kernel
theorem dX6_weightOf_12 : decode cX6_weightOf 12 = .ok (.iadd, 1) := by decide +kernel
theorem dX6_weightOf_13 : decode cX6_weightOf 13 = .ok (.iaload, 1) := by decide +kernel
theorem dX6_weightOf_14 : decode cX6_weightOf 14 = .ok (.ireturn, 1) := by decide +kernel
theorem dX6_off_0 : decode cX6_off 0 = .ok (.iload_n 1, 1) := by decide +kernel
theorem dX6_off_1 : decode cX6_off 1 = .ok (.aload_n 0, 1) := by decide +kernel
theorem dX6_off_2 : decode cX6_off 2 = .ok (.getfield 7, 3) := by decide +kernel
theorem dX6_off_5 : decode cX6_off 5 = .ok (.iconst 1, 1) := by decide +kernel
theorem dX6_off_6 : decode cX6_off 6 = .ok (.iaload, 1) := by decide +kernel
theorem dX6_off_7 : decode cX6_off 7 = .ok (.if_icmp .ge 14, 3) := by decide +kernel
theorem dX6_off_10 : decode cX6_off 10 = .ok (.aload_n 0, 1) := by decide +kernel
theorem dX6_off_11 : decode cX6_off 11 = .ok (.getfield 7, 3) := by decide +kernel
theorem dX6_off_14 : decode cX6_off 14 = .ok (.iconst 1, 1) := by decide +kernel
theorem dX6_off_15 : decode cX6_off 15 = .ok (.iaload, 1) := by decide +kernel
theorem dX6_off_16 : decode cX6_off 16 = .ok (.iload_n 1, 1) := by decide +kernel
theorem dX6_off_17 : decode cX6_off 17 = .ok (.isub, 1) := by decide +kernel
theorem dX6_off_18 : decode cX6_off 18 = .ok (.goto 11, 3) := by decide +kernel
theorem dX6_off_21 : decode cX6_off 21 = .ok (.iload_n 1, 1) := by decide +kernel
theorem dX6_off_22 : decode cX6_off 22 = .ok (.aload_n 0, 1) := by decide +kernel
theorem dX6_off_23 : decode cX6_off 23 = .ok (.getfield 7, 3) := by decide +kernel
theorem dX6_off_26 : decode cX6_off 26 = .ok (.iconst 1, 1) := by decide +kernel
theorem dX6_off_27 : decode cX6_off 27 = .ok (.iaload, 1) := by decide +kernel
theorem dX6_off_28 : decode cX6_off 28 = .ok (.isub, 1) := by decide +kernel
theorem dX6_off_29 : decode cX6_off 29 = .ok (.ireturn, 1) := by decide +kernel
theorem dX6_clauseCost_0 : decode cX6_clauseCost 0 = .ok (.iconst 0, 1) := by decide +kernel
theorem dX6_clauseCost_1 : decode cX6_clauseCost 1 = .ok (.istore_n 3, 1) := by decide +kernel
theorem dX6_clauseCost_2 : decode cX6_clauseCost 2 = .ok (.iconst 0, 1) := by decide +kernel
theorem dX6_clauseCost_3 : decode cX6_clauseCost 3 = .ok (.istore 4, 2) := by decide +kernel
theorem dX6_clauseCost_5 : decode cX6_clauseCost 5 = .ok (.aload_n 0, 1) := by decide +kernel
theorem dX6_clauseCost_6 : decode cX6_clauseCost 6 = .ok (.iload_n 1, 1) := by decide +kernel
theorem dX6_clauseCost_7 : decode cX6_clauseCost 7 = .ok (.iconst 0, 1) := by decide +kernel
theorem dX6_clauseCost_8 : decode cX6_clauseCost 8 = .ok (.invokevirtual 60, 3) := by decide +kernel
theorem dX6_clauseCost_11 : decode cX6_clauseCost 11 = .ok (.istore 5, 2) := by decide +kernel
theorem dX6_clauseCost_13 : decode cX6_clauseCost 13 = .ok (.iconst 0, 1) := by decide +kernel
theorem dX6_clauseCost_14 : decode cX6_clauseCost 14 = .ok (.istore 6, 2) := by decide +kernel
theorem dX6_clauseCost_16 : decode cX6_clauseCost 16 = .ok (.iload 6, 2) := by decide +kernel
theorem dX6_clauseCost_18 : decode cX6_clauseCost 18 = .ok (.iload 5, 2) := by decide +kernel
theorem dX6_clauseCost_20 : decode cX6_clauseCost 20 = .ok (.if_icmp .ge 78, 3) := by decide +kernel
theorem dX6_clauseCost_23 : decode cX6_clauseCost 23 = .ok (.iload 4, 2) := by decide +kernel
theorem dX6_clauseCost_25 : decode cX6_clauseCost 25 = .ok (.aload_n 0, 1) := by decide +kernel
theorem dX6_clauseCost_26 : decode cX6_clauseCost 26 = .ok (.iload_n 1, 1) := by decide +kernel
theorem dX6_clauseCost_27 : decode cX6_clauseCost 27 = .ok (.iload 6, 2) := by decide +kernel
theorem dX6_clauseCost_29 : decode cX6_clauseCost 29 = .ok (.invokevirtual 66, 3) := by decide +kernel
theorem dX6_clauseCost_32 : decode cX6_clauseCost 32 = .ok (.iadd, 1) := by decide +kernel
theorem dX6_clauseCost_33 : decode cX6_clauseCost 33 = .ok (.istore 4, 2) := by decide +kernel
theorem dX6_clauseCost_35 : decode cX6_clauseCost 35 = .ok (.iload 6, 2) := by decide +kernel
theorem dX6_clauseCost_37 : decode cX6_clauseCost 37 = .ok (.iload 5, 2) := by decide +kernel
theorem dX6_clauseCost_39 : decode cX6_clauseCost 39 = .ok (.iconst 1, 1) := by decide +kernel
theorem dX6_clauseCost_40 : decode cX6_clauseCost 40 = .ok (.isub, 1) := by decide +kernel
theorem dX6_clauseCost_41 : decode cX6_clauseCost 41 = .ok (.if_icmp .eq 13, 3) := by decide +kernel
theorem dX6_clauseCost_44 : decode cX6_clauseCost 44 = .ok (.iload_n 2, 1) := by decide +kernel
theorem dX6_clauseCost_45 : decode cX6_clauseCost 45 = .ok (.iload 6, 2) := by decide +kernel
theorem dX6_clauseCost_47 : decode cX6_clauseCost 47 = .ok (.ishr, 1) := by decide +kernel
theorem dX6_clauseCost_48 : decode cX6_clauseCost 48 = .ok (.iconst 1, 1) := by decide +kernel
theorem dX6_clauseCost_49 : decode cX6_clauseCost 49 = .ok (.iand, 1) := by decide +kernel
theorem dX6_clauseCost_50 : decode cX6_clauseCost 50 = .ok (.iconst 1, 1) := by decide +kernel
theorem dX6_clauseCost_51 : decode cX6_clauseCost 51 = .ok (.if_icmp .ne 7, 3) := by decide +kernel
theorem dX6_clauseCost_54 : decode cX6_clauseCost 54 = .ok (.iconst 1, 1) := by decide +kernel
theorem dX6_clauseCost_55 : decode cX6_clauseCost 55 = .ok (.goto 4, 3) := by decide +kernel
theorem dX6_clauseCost_58 : decode cX6_clauseCost 58 = .ok (.iconst 0, 1) := by decide +kernel
