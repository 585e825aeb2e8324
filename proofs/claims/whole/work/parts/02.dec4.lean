theorem dX11_judge_125 : decode cX11_judge 125 = .ok (.goto (-95), 3) := by decide +kernel
theorem dX11_judge_128 : decode cX11_judge 128 = .ok (.iconst (-1), 1) := by decide +kernel
theorem dX11_judge_129 : decode cX11_judge 129 = .ok (.ireturn, 1) := by decide +kernel
theorem dX11_apart_0 : decode cX11_apart 0 = .ok (.aload_n 0, 1) := by decide +kernel
theorem dX11_apart_1 : decode cX11_apart 1 = .ok (.iconst 0, 1) := by decide +kernel
theorem dX11_apart_2 : decode cX11_apart 2 = .ok (.putfield 154, 3) := by decide +kernel
theorem dX11_apart_5 : decode cX11_apart 5 = .ok (.aload_n 0, 1) := by decide +kernel
theorem dX11_apart_6 : decode cX11_apart 6 = .ok (.iload_n 1, 1) := by decide +kernel
theorem dX11_apart_7 : decode cX11_apart 7 = .ok (.invokevirtual 164, 3) := by decide +kernel
theorem dX11_apart_10 : decode cX11_apart 10 = .ok (.ifCond .eq 12, 3) := by decide +kernel
theorem dX11_apart_13 : decode cX11_apart 13 = .ok (.iload_n 3, 1) := by decide +kernel
theorem dX11_apart_14 : decode cX11_apart 14 = .ok (.iconst 0, 1) := by decide +kernel
theorem dX11_apart_15 : decode cX11_apart 15 = .ok (.iconst 2, 1) := by decide +kernel
theorem dX11_apart_16 : decode cX11_apart 16 = .ok (.invokestatic 160, 3) := by decide +kernel
theorem dX11_apart_19 : decode cX11_apart 19 = .ok (.ifCond .ne 9, 3) := by decide +kernel
theorem dX11_apart_22 : decode cX11_apart 22 = .ok (.aload_n 0, 1) := by decide +kernel
theorem dX11_apart_23 : decode cX11_apart 23 = .ok (.iconst 1, 1) := by decide +kernel
theorem dX11_apart_24 : decode cX11_apart 24 = .ok (.invokevirtual 287, 3) := by decide +kernel
theorem dX11_apart_27 : decode cX11_apart 27 = .ok (.ireturn, 1) := by decide +kernel
theorem dX11_apart_28 : decode cX11_apart 28 = .ok (.iload_n 2, 1) := by decide +kernel
theorem dX11_apart_29 : decode cX11_apart 29 = .ok (.iconst 0, 1) := by decide +kernel
theorem dX11_apart_30 : decode cX11_apart 30 = .ok (.bipush 30, 2) := by decide +kernel
theorem dX11_apart_32 : decode cX11_apart 32 = .ok (.invokestatic 160, 3) := by decide +kernel
theorem dX11_apart_35 : decode cX11_apart 35 = .ok (.ifCond .ne 9, 3) := by decide +kernel
theorem dX11_apart_38 : decode cX11_apart 38 = .ok (.aload_n 0, 1) := by decide +kernel
theorem dX11_apart_39 : decode cX11_apart 39 = .ok (.iconst 2, 1) := by decide +kernel
theorem dX11_apart_40 : decode cX11_apart 40 = .ok (.invokevirtual 287, 3) := by decide +kernel
theorem dX11_apart_43 : decode cX11_apart 43 = .ok (.ireturn, 1) := by decide +kernel
theorem dX11_apart_44 : decode cX11_apart 44 = .ok (.bipush 14, 2) := by decide +kernel
theorem dX11_apart_46 : decode cX11_apart 46 = .ok (.aload_n 0, 1) := by decide +kernel
theorem dX11_apart_47 : decode cX11_apart 47 = .ok (.iload_n 1, 1) := by decide +kernel
theorem dX11_apart_48 : decode cX11_apart 48 = .ok (.invokevirtual 356, 3) := by decide +kernel
theorem dX11_apart_51 : decode cX11_apart 51 = .ok (.invokestatic 197, 3) := by decide +kernel
theorem dX11_apart_54 : decode cX11_apart 54 = .ok (.istore 4, 2) := by decide +kernel
theorem dX11_apart_56 : decode cX11_apart 56 = .ok (.iconst 0, 1) := by decide +kernel
theorem dX11_apart_57 : decode cX11_apart 57 = .ok (.istore 5, 2) := by decide +kernel
theorem dX11_apart_59 : decode cX11_apart 59 = .ok (.iload 5, 2) := by decide +kernel
theorem dX11_apart_61 : decode cX11_apart 61 = .ok (.iload 4, 2) := by decide +kernel
theorem dX11_apart_63 : decode cX11_apart 63 = .ok (.if_icmp .ge 23, 3) := by decide +kernel
theorem dX11_apart_66 : decode cX11_apart 66 = .ok (.aload_n 0, 1) := by decide +kernel
theorem dX11_apart_67 : decode cX11_apart 67 = .ok (.getfield 105, 3) := by decide +kernel
theorem dX11_apart_70 : decode cX11_apart 70 = .ok (.iload 5, 2) := by decide +kernel
theorem dX11_apart_72 : decode cX11_apart 72 = .ok (.aload_n 0, 1) := by decide +kernel
theorem dX11_apart_73 : decode cX11_apart 73 = .ok (.iload_n 1, 1) := by decide +kernel
theorem dX11_apart_74 : decode cX11_apart 74 = .ok (.iload 5, 2) := by decide +kernel
theorem dX11_apart_76 : decode cX11_apart 76 = .ok (.invokevirtual 378, 3) := by decide +kernel
theorem dX11_apart_79 : decode cX11_apart 79 = .ok (.iastore, 1) := by decide +kernel
theorem dX11_apart_80 : decode cX11_apart 80 = .ok (.iinc 5 1, 3) := by decide +kernel
theorem dX11_apart_83 : decode cX11_apart 83 = .ok (.goto (-24), 3) := by decide +kernel
theorem dX11_apart_86 : decode cX11_apart 86 = .ok (.iconst 0, 1) := by decide +kernel
theorem dX11_apart_87 : decode cX11_apart 87 = .ok (.istore 5, 2) := by decide +kernel
theorem dX11_apart_89 : decode cX11_apart 89 = .ok (.iconst 0, 1) := by decide +kernel
theorem dX11_apart_90 : decode cX11_apart 90 = .ok (.istore 6, 2) := by decide +kernel
theorem dX11_apart_92 : decode cX11_apart 92 = .ok (.iconst 0, 1) := by decide +kernel
theorem dX11_apart_93 : decode cX11_apart 93 = .ok (.istore 7, 2) := by decide +kernel
theorem dX11_apart_95 : decode cX11_apart 95 = .ok (.iconst 1, 1) := by decide +kernel
theorem dX11_apart_96 : decode cX11_apart 96 = .ok (.istore 8, 2) := by decide +kernel
theorem dX11_apart_98 : decode cX11_apart 98 = .ok (.iload 8, 2) := by decide +kernel
theorem dX11_apart_100 : decode cX11_apart 100 = .ok (.iconst 1, 1) := by decide +kernel
theorem dX11_apart_101 : decode cX11_apart 101 = .ok (.iload 4, 2) := by decide +kernel
theorem dX11_apart_103 : decode cX11_apart 103 = .ok (.ishl, 1) := by decide +kernel
theorem dX11_apart_104 : decode cX11_apart 104 = .ok (.if_icmp .ge 116, 3) := by decide +kernel
theorem dX11_apart_107 : decode cX11_apart 107 = .ok (.iload 8, 2) := by decide +kernel
theorem dX11_apart_109 : decode cX11_apart 109 = .ok (.invokestatic 324, 3) := by decide +kernel
theorem dX11_apart_112 : decode cX11_apart 112 = .ok (.istore 9, 2) := by decide +kernel
theorem dX11_apart_114 : decode cX11_apart 114 = .ok (.iload 9, 2) := by decide +kernel
theorem dX11_apart_116 : decode cX11_apart 116 = .ok (.iload 6, 2) := by decide +kernel
theorem dX11_apart_118 : decode cX11_apart 118 = .ok (.if_icmp .lt 96, 3) := by decide +kernel
theorem dX11_apart_121 : decode cX11_apart 121 = .ok (.aload_n 0, 1) := by decide +kernel
theorem dX11_apart_122 : decode cX11_apart 122 = .ok (.iload_n 1, 1) := by decide +kernel
theorem dX11_apart_123 : decode cX11_apart 123 = .ok (.iload 8, 2) := by decide +kernel
theorem dX11_apart_125 : decode cX11_apart 125 = .ok (.iload_n 2, 1) := by decide +kernel
theorem dX11_apart_126 : decode cX11_apart 126 = .ok (.invokevirtual 381, 3) := by decide +kernel
theorem dX11_apart_129 : decode cX11_apart 129 = .ok (.ifCond .ne 6, 3) := by decide +kernel
theorem dX11_apart_132 : decode cX11_apart 132 = .ok (.goto 82, 3) := by decide +kernel
theorem dX11_apart_135 : decode cX11_apart 135 = .ok (.iconst 0, 1) := by decide +kernel
theorem dX11_apart_136 : decode cX11_apart 136 = .ok (.istore 10, 2) := by decide +kernel
theorem dX11_apart_138 : decode cX11_apart 138 = .ok (.iconst 0, 1) := by decide +kernel
theorem dX11_apart_139 : decode cX11_apart 139 = .ok (.istore 11, 2) := by decide +kernel
theorem dX11_apart_141 : decode cX11_apart 141 = .ok (.iload 11, 2) := by decide +kernel
theorem dX11_apart_143 : decode cX11_apart 143 = .ok (.iload 4, 2) := by decide +kernel
theorem dX11_apart_145 : decode cX11_apart 145 = .ok (.if_icmp .ge 40, 3) := by decide +kernel
theorem dX11_apart_148 : decode cX11_apart 148 = .ok (.iload 10, 2) := by decide +kernel
theorem dX11_apart_150 : decode cX11_apart 150 = .ok (.iload 8, 2) := by decide +kernel
theorem dX11_apart_152 : decode cX11_apart 152 = .ok (.iload 11, 2) := by decide +kernel
theorem dX11_apart_154 : decode cX11_apart 154 = .ok (.ishr, 1) := by decide +kernel
theorem dX11_apart_155 : decode cX11_apart 155 = .ok (.iconst 1, 1) := by decide +kernel
theorem dX11_apart_156 : decode cX11_apart 156 = .ok (.iand, 1) := by decide +kernel
theorem dX11_apart_157 : decode cX11_apart 157 = .ok (.aload_n 0, 1) := by decide +kernel
theorem dX11_apart_158 : decode cX11_apart 158 = .ok (.getfield 64, 3) := by decide +kernel
theorem dX11_apart_161 : decode cX11_apart 161 = .ok (.sipush 2000, 3) := by decide +kernel
theorem dX11_apart_164 : decode cX11_apart 164 = .ok (.iload_n 1, 1) := by decide +kernel
theorem dX11_apart_165 : decode cX11_apart 165 = .ok (.imul, 1) := by decide +kernel
theorem dX11_apart_166 : decode cX11_apart 166 = .ok (.aload_n 0, 1) := by decide +kernel
theorem dX11_apart_167 : decode cX11_apart 167 = .ok (.getfield 105, 3) := by decide +kernel
theorem dX11_apart_170 : decode cX11_apart 170 = .ok (.iload 11, 2) := by decide +kernel
theorem dX11_apart_172 : decode cX11_apart 172 = .ok (.iaload, 1) := by decide +kernel
theorem dX11_apart_173 : decode cX11_apart 173 = .ok (.iadd, 1) := by decide +kernel
theorem dX11_apart_174 : decode cX11_apart 174 = .ok (.iaload, 1) := by decide +kernel
theorem dX11_apart_175 : decode cX11_apart 175 = .ok (.imul, 1) := by decide +kernel
theorem dX11_apart_176 : decode cX11_apart 176 = .ok (.iadd, 1) := by decide +kernel
theorem dX11_apart_177 : decode cX11_apart 177 = .ok (.istore 10, 2) := by decide +kernel
theorem dX11_apart_179 : decode cX11_apart 179 = .ok (.iinc 11 1, 3) := by decide +kernel
theorem dX11_apart_182 : decode cX11_apart 182 = .ok (.goto (-41), 3) := by decide +kernel
theorem dX11_apart_185 : decode cX11_apart 185 = .ok (.iload 9, 2) := by decide +kernel
theorem dX11_apart_187 : decode cX11_apart 187 = .ok (.iload 6, 2) := by decide +kernel
theorem dX11_apart_189 : decode cX11_apart 189 = .ok (.if_icmp .ne 13, 3) := by decide +kernel
theorem dX11_apart_192 : decode cX11_apart 192 = .ok (.iload 10, 2) := by decide +kernel
theorem dX11_apart_194 : decode cX11_apart 194 = .ok (.iload 7, 2) := by decide +kernel
theorem dX11_apart_196 : decode cX11_apart 196 = .ok (.if_icmp .lt 6, 3) := by decide +kernel
theorem dX11_apart_199 : decode cX11_apart 199 = .ok (.goto 15, 3) := by decide +kernel
theorem dX11_apart_202 : decode cX11_apart 202 = .ok (.iload 8, 2) := by decide +kernel
theorem dX11_apart_204 : decode cX11_apart 204 = .ok (.istore 5, 2) := by decide +kernel
theorem dX11_apart_206 : decode cX11_apart 206 = .ok (.iload 9, 2) := by decide +kernel
theorem dX11_apart_208 : decode cX11_apart 208 = .ok (.istore 6, 2) := by decide +kernel
theorem dX11_apart_210 : decode cX11_apart 210 = .ok (.iload 10, 2) := by decide +kernel
theorem dX11_apart_212 : decode cX11_apart 212 = .ok (.istore 7, 2) := by decide +kernel
theorem dX11_apart_214 : decode cX11_apart 214 = .ok (.iinc 8 1, 3) := by decide +kernel
theorem dX11_apart_217 : decode cX11_apart 217 = .ok (.goto (-119), 3) := by decide +kernel
theorem dX11_apart_220 : decode cX11_apart 220 = .ok (.iload_n 3, 1) := by decide +kernel
theorem dX11_apart_221 : decode cX11_apart 221 = .ok (.ifCond .ne 8, 3) := by decide +kernel
theorem dX11_apart_224 : decode cX11_apart 224 = .ok (.iload 6, 2) := by decide +kernel
theorem dX11_apart_226 : decode cX11_apart 226 = .ok (.goto 15, 3) := by decide +kernel
theorem dX11_apart_229 : decode cX11_apart 229 = .ok (.iload_n 3, 1) := by decide +kernel
theorem dX11_apart_230 : decode cX11_apart 230 = .ok (.iconst 1, 1) := by decide +kernel
theorem dX11_apart_231 : decode cX11_apart 231 = .ok (.if_icmp .ne 8, 3) := by decide +kernel
theorem dX11_apart_234 : decode cX11_apart 234 = .ok (.iload 7, 2) := by decide +kernel
theorem dX11_apart_236 : decode cX11_apart 236 = .ok (.goto 5, 3) := by decide +kernel
theorem dX11_apart_239 : decode cX11_apart 239 = .ok (.iload 5, 2) := by decide +kernel
theorem dX11_apart_241 : decode cX11_apart 241 = .ok (.ireturn, 1) := by decide +kernel
theorem dX11_areApart_0 : decode cX11_areApart 0 = .ok (.iconst 0, 1) := by decide +kernel
theorem dX11_areApart_1 : decode cX11_areApart 1 = .ok (.istore 4, 2) := by decide +kernel
theorem dX11_areApart_3 : decode cX11_areApart 3 = .ok (.iload 4, 2) := by decide +kernel
theorem dX11_areApart_5 : decode cX11_areApart 5 = .ok (.bipush 14, 2) := by decide +kernel
theorem dX11_areApart_7 : decode cX11_areApart 7 = .ok (.if_icmp .ge 79, 3) := by decide +kernel
theorem dX11_areApart_10 : decode cX11_areApart 10 = .ok (.iconst 0, 1) := by decide +kernel
theorem dX11_areApart_11 : decode cX11_areApart 11 = .ok (.istore 5, 2) := by decide +kernel
theorem dX11_areApart_13 : decode cX11_areApart 13 = .ok (.iload 5, 2) := by decide +kernel
theorem dX11_areApart_15 : decode cX11_areApart 15 = .ok (.iload 4, 2) := by decide +kernel
theorem dX11_areApart_17 : decode cX11_areApart 17 = .ok (.if_icmp .ge 63, 3) := by decide +kernel
theorem dX11_areApart_20 : decode cX11_areApart 20 = .ok (.iload_n 2, 1) := by decide +kernel
theorem dX11_areApart_21 : decode cX11_areApart 21 = .ok (.iload 4, 2) := by decide +kernel
theorem dX11_areApart_23 : decode cX11_areApart 23 = .ok (.ishr, 1) := by decide +kernel
theorem dX11_areApart_24 : decode cX11_areApart 24 = .ok (.iconst 1, 1) := by decide +kernel
theorem dX11_areApart_25 : decode cX11_areApart 25 = .ok (.iand, 1) := by decide +kernel
theorem dX11_areApart_26 : decode cX11_areApart 26 = .ok (.iconst 1, 1) := by decide +kernel
theorem dX11_areApart_27 : decode cX11_areApart 27 = .ok (.if_icmp .ne 53, 3) := by decide +kernel
theorem dX11_areApart_30 : decode cX11_areApart 30 = .ok (.iload_n 2, 1) := by decide +kernel
theorem dX11_areApart_31 : decode cX11_areApart 31 = .ok (.iload 5, 2) := by decide +kernel
theorem dX11_areApart_33 : decode cX11_areApart 33 = .ok (.ishr, 1) := by decide +kernel
theorem dX11_areApart_34 : decode cX11_areApart 34 = .ok (.iconst 1, 1) := by decide +kernel
theorem dX11_areApart_35 : decode cX11_areApart 35 = .ok (.iand, 1) := by decide +kernel
theorem dX11_areApart_36 : decode cX11_areApart 36 = .ok (.iconst 1, 1) := by decide +kernel
theorem dX11_areApart_37 : decode cX11_areApart 37 = .ok (.if_icmp .ne 37, 3) := by decide +kernel
theorem dX11_areApart_40 : decode cX11_areApart 40 = .ok (.aload_n 0, 1) := by decide +kernel
theorem dX11_areApart_41 : decode cX11_areApart 41 = .ok (.iload_n 1, 1) := by decide +kernel
theorem dX11_areApart_42 : decode cX11_areApart 42 = .ok (.aload_n 0, 1) := by decide +kernel
theorem dX11_areApart_43 : decode cX11_areApart 43 = .ok (.getfield 105, 3) := by decide +kernel
theorem dX11_areApart_46 : decode cX11_areApart 46 = .ok (.iload 4, 2) := by decide +kernel
theorem dX11_areApart_48 : decode cX11_areApart 48 = .ok (.iaload, 1) := by decide +kernel
theorem dX11_areApart_49 : decode cX11_areApart 49 = .ok (.invokevirtual 349, 3) := by decide +kernel
theorem dX11_areApart_52 : decode cX11_areApart 52 = .ok (.aload_n 0, 1) := by decide +kernel
theorem dX11_areApart_53 : decode cX11_areApart 53 = .ok (.iload_n 1, 1) := by decide +kernel
theorem dX11_areApart_54 : decode cX11_areApart 54 = .ok (.aload_n 0, 1) := by decide +kernel
theorem dX11_areApart_55 : decode cX11_areApart 55 = .ok (.getfield 105, 3) := by decide +kernel
theorem dX11_areApart_58 : decode cX11_areApart 58 = .ok (.iload 5, 2) := by decide +kernel
theorem dX11_areApart_60 : decode cX11_areApart 60 = .ok (.iaload, 1) := by decide +kernel
theorem dX11_areApart_61 : decode cX11_areApart 61 = .ok (.invokevirtual 349, 3) := by decide +kernel
theorem dX11_areApart_64 : decode cX11_areApart 64 = .ok (.ixor, 1) := by decide +kernel
theorem dX11_areApart_65 : decode cX11_areApart 65 = .ok (.invokestatic 324, 3) := by decide +kernel
theorem dX11_areApart_68 : decode cX11_areApart 68 = .ok (.iload_n 3, 1) := by decide +kernel
theorem dX11_areApart_69 : decode cX11_areApart 69 = .ok (.if_icmp .ge 5, 3) := by decide +kernel
theorem dX11_areApart_72 : decode cX11_areApart 72 = .ok (.iconst 0, 1) := by decide +kernel
theorem dX11_areApart_73 : decode cX11_areApart 73 = .ok (.ireturn, 1) := by decide +kernel
theorem dX11_areApart_74 : decode cX11_areApart 74 = .ok (.iinc 5 1, 3) := by decide +kernel
theorem dX11_areApart_77 : decode cX11_areApart 77 = .ok (.goto (-64), 3) := by decide +kernel
theorem dX11_areApart_80 : decode cX11_areApart 80 = .ok (.iinc 4 1, 3) := by decide +kernel
theorem dX11_areApart_83 : decode cX11_areApart 83 = .ok (.goto (-80), 3) := by decide +kernel
theorem dX11_areApart_86 : decode cX11_areApart 86 = .ok (.iconst 1, 1) := by decide +kernel
theorem dX11_areApart_87 : decode cX11_areApart 87 = .ok (.ireturn, 1) := by decide +kernel
theorem dX11_weight_0 : decode cX11_weight 0 = .ok (.aload_n 0, 1) := by decide +kernel
theorem dX11_weight_1 : decode cX11_weight 1 = .ok (.iconst 0, 1) := by decide +kernel
theorem dX11_weight_2 : decode cX11_weight 2 = .ok (.putfield 154, 3) := by decide +kernel
theorem dX11_weight_5 : decode cX11_weight 5 = .ok (.iload_n 1, 1) := by decide +kernel
theorem dX11_weight_6 : decode cX11_weight 6 = .ok (.iconst 0, 1) := by decide +kernel
theorem dX11_weight_7 : decode cX11_weight 7 = .ok (.bipush 99, 2) := by decide +kernel
theorem dX11_weight_9 : decode cX11_weight 9 = .ok (.invokestatic 160, 3) := by decide +kernel
theorem dX11_weight_12 : decode cX11_weight 12 = .ok (.ifCond .eq 13, 3) := by decide +kernel
theorem dX11_weight_15 : decode cX11_weight 15 = .ok (.iload_n 2, 1) := by decide +kernel
theorem dX11_weight_16 : decode cX11_weight 16 = .ok (.iconst 0, 1) := by decide +kernel
theorem dX11_weight_17 : decode cX11_weight 17 = .ok (.bipush 99, 2) := by decide +kernel
theorem dX11_weight_19 : decode cX11_weight 19 = .ok (.invokestatic 160, 3) := by decide +kernel
theorem dX11_weight_22 : decode cX11_weight 22 = .ok (.ifCond .ne 5, 3) := by decide +kernel
theorem dX11_weight_25 : decode cX11_weight 25 = .ok (.iconst 0, 1) := by decide +kernel
theorem dX11_weight_26 : decode cX11_weight 26 = .ok (.ireturn, 1) := by decide +kernel
theorem dX11_weight_27 : decode cX11_weight 27 = .ok (.aload_n 0, 1) := by decide +kernel
theorem dX11_weight_28 : decode cX11_weight 28 = .ok (.getfield 92, 3) := by decide +kernel
theorem dX11_weight_31 : decode cX11_weight 31 = .ok (.iload_n 1, 1) := by decide +kernel
theorem dX11_weight_32 : decode cX11_weight 32 = .ok (.iload_n 2, 1) := by decide +kernel
theorem dX11_weight_33 : decode cX11_weight 33 = .ok (.iastore, 1) := by decide +kernel
theorem dX11_weight_34 : decode cX11_weight 34 = .ok (.iconst 1, 1) := by decide +kernel
theorem dX11_weight_35 : decode cX11_weight 35 = .ok (.ireturn, 1) := by decide +kernel
theorem dX11_yearCosts_0 : decode cX11_yearCosts 0 = .ok (.iconst 0, 1) := by decide +kernel
theorem dX11_yearCosts_1 : decode cX11_yearCosts 1 = .ok (.istore 4, 2) := by decide +kernel
theorem dX11_yearCosts_3 : decode cX11_yearCosts 3 = .ok (.iload_n 3, 1) := by decide +kernel
theorem dX11_yearCosts_4 : decode cX11_yearCosts 4 = .ok (.istore 5, 2) := by decide +kernel
theorem dX11_yearCosts_6 : decode cX11_yearCosts 6 = .ok (.bipush 99, 2) := by decide +kernel
theorem dX11_yearCosts_8 : decode cX11_yearCosts 8 = .ok (.istore 6, 2) := by decide +kernel
theorem dX11_yearCosts_10 : decode cX11_yearCosts 10 = .ok (.iload 6, 2) := by decide +kernel
theorem dX11_yearCosts_12 : decode cX11_yearCosts 12 = .ok (.ifCond .lt 68, 3) := by decide +kernel
theorem dX11_yearCosts_15 : decode cX11_yearCosts 15 = .ok (.iconst 0, 1) := by decide +kernel
theorem dX11_yearCosts_16 : decode cX11_yearCosts 16 = .ok (.istore 7, 2) := by decide +kernel
theorem dX11_yearCosts_18 : decode cX11_yearCosts 18 = .ok (.iload 7, 2) := by decide +kernel
theorem dX11_yearCosts_20 : decode cX11_yearCosts 20 = .ok (.iload_n 2, 1) := by decide +kernel
theorem dX11_yearCosts_21 : decode cX11_yearCosts 21 = .ok (.if_icmp .ge 53, 3) := by decide +kernel
theorem dX11_yearCosts_24 : decode cX11_yearCosts 24 = .ok (.aload_n 0, 1) := by decide +kernel
theorem dX11_yearCosts_25 : decode cX11_yearCosts 25 = .ok (.getfield 92, 3) := by decide +kernel
theorem dX11_yearCosts_28 : decode cX11_yearCosts 28 = .ok (.iload 7, 2) := by decide +kernel
theorem dX11_yearCosts_30 : decode cX11_yearCosts 30 = .ok (.iaload, 1) := by decide +kernel
theorem dX11_yearCosts_31 : decode cX11_yearCosts 31 = .ok (.iload 6, 2) := by decide +kernel
theorem dX11_yearCosts_33 : decode cX11_yearCosts 33 = .ok (.if_icmp .eq 6, 3) := by decide +kernel
theorem dX11_yearCosts_36 : decode cX11_yearCosts 36 = .ok (.goto 32, 3) := by decide +kernel
theorem dX11_yearCosts_39 : decode cX11_yearCosts 39 = .ok (.iload 4, 2) := by decide +kernel
theorem dX11_yearCosts_41 : decode cX11_yearCosts 41 = .ok (.iload 6, 2) := by decide +kernel
theorem dX11_yearCosts_43 : decode cX11_yearCosts 43 = .ok (.aload_n 0, 1) := by decide +kernel
theorem dX11_yearCosts_44 : decode cX11_yearCosts 44 = .ok (.getfield 64, 3) := by decide +kernel
theorem dX11_yearCosts_47 : decode cX11_yearCosts 47 = .ok (.sipush 2000, 3) := by decide +kernel
theorem dX11_yearCosts_50 : decode cX11_yearCosts 50 = .ok (.iload_n 1, 1) := by decide +kernel
theorem dX11_yearCosts_51 : decode cX11_yearCosts 51 = .ok (.imul, 1) := by decide +kernel
theorem dX11_yearCosts_52 : decode cX11_yearCosts 52 = .ok (.aload_n 0, 1) := by decide +kernel
theorem dX11_yearCosts_53 : decode cX11_yearCosts 53 = .ok (.iload_n 1, 1) := by decide +kernel
theorem dX11_yearCosts_54 : decode cX11_yearCosts 54 = .ok (.iload 5, 2) := by decide +kernel
theorem dX11_yearCosts_56 : decode cX11_yearCosts 56 = .ok (.invokevirtual 378, 3) := by decide +kernel
theorem dX11_yearCosts_59 : decode cX11_yearCosts 59 = .ok (.iadd, 1) := by decide +kernel
theorem dX11_yearCosts_60 : decode cX11_yearCosts 60 = .ok (.iaload, 1) := by decide +kernel
theorem dX11_yearCosts_61 : decode cX11_yearCosts 61 = .ok (.imul, 1) := by decide +kernel
theorem dX11_yearCosts_62 : decode cX11_yearCosts 62 = .ok (.iadd, 1) := by decide +kernel
theorem dX11_yearCosts_63 : decode cX11_yearCosts 63 = .ok (.istore 4, 2) := by decide +kernel
theorem dX11_yearCosts_65 : decode cX11_yearCosts 65 = .ok (.iinc 5 1, 3) := by decide +kernel
theorem dX11_yearCosts_68 : decode cX11_yearCosts 68 = .ok (.iinc 7 1, 3) := by decide +kernel
theorem dX11_yearCosts_71 : decode cX11_yearCosts 71 = .ok (.goto (-53), 3) := by decide +kernel
theorem dX11_yearCosts_74 : decode cX11_yearCosts 74 = .ok (.iinc 6 (-1), 3) := by decide +kernel
theorem dX11_yearCosts_77 : decode cX11_yearCosts 77 = .ok (.goto (-67), 3) := by decide +kernel
theorem dX11_yearCosts_80 : decode cX11_yearCosts 80 = .ok (.iload 4, 2) := by decide +kernel
theorem dX11_yearCosts_82 : decode cX11_yearCosts 82 = .ok (.ireturn, 1) := by decide +kernel
theorem dX11_years_0 : decode cX11_years 0 = .ok (.aload_n 0, 1) := by decide +kernel
theorem dX11_years_1 : decode cX11_years 1 = .ok (.iconst 0, 1) := by decide +kernel
theorem dX11_years_2 : decode cX11_years 2 = .ok (.putfield 154, 3) := by decide +kernel
theorem dX11_years_5 : decode cX11_years 5 = .ok (.aload_n 0, 1) := by decide +kernel
theorem dX11_years_6 : decode cX11_years 6 = .ok (.iload_n 1, 1) := by decide +kernel
theorem dX11_years_7 : decode cX11_years 7 = .ok (.invokevirtual 164, 3) := by decide +kernel
theorem dX11_years_10 : decode cX11_years 10 = .ok (.ifCond .eq 12, 3) := by decide +kernel
theorem dX11_years_13 : decode cX11_years 13 = .ok (.iload_n 3, 1) := by decide +kernel
theorem dX11_years_14 : decode cX11_years 14 = .ok (.ifCond .lt 8, 3) := by decide +kernel
theorem dX11_years_17 : decode cX11_years 17 = .ok (.iload_n 3, 1) := by decide +kernel
theorem dX11_years_18 : decode cX11_years 18 = .ok (.iconst 1, 1) := by decide +kernel
theorem dX11_years_19 : decode cX11_years 19 = .ok (.if_icmp .le 9, 3) := by decide +kernel
theorem dX11_years_22 : decode cX11_years 22 = .ok (.aload_n 0, 1) := by decide +kernel
theorem dX11_years_23 : decode cX11_years 23 = .ok (.iconst 1, 1) := by decide +kernel
theorem dX11_years_24 : decode cX11_years 24 = .ok (.invokevirtual 287, 3) := by decide +kernel
theorem dX11_years_27 : decode cX11_years 27 = .ok (.ireturn, 1) := by decide +kernel
theorem dX11_years_28 : decode cX11_years 28 = .ok (.iload_n 2, 1) := by decide +kernel
theorem dX11_years_29 : decode cX11_years 29 = .ok (.iconst 1, 1) := by decide +kernel
theorem dX11_years_30 : decode cX11_years 30 = .ok (.bipush 100, 2) := by decide +kernel
theorem dX11_years_32 : decode cX11_years 32 = .ok (.invokestatic 160, 3) := by decide +kernel
theorem dX11_years_35 : decode cX11_years 35 = .ok (.ifCond .ne 9, 3) := by decide +kernel
theorem dX11_years_38 : decode cX11_years 38 = .ok (.aload_n 0, 1) := by decide +kernel
theorem dX11_years_39 : decode cX11_years 39 = .ok (.iconst 2, 1) := by decide +kernel
theorem dX11_years_40 : decode cX11_years 40 = .ok (.invokevirtual 287, 3) := by decide +kernel
theorem dX11_years_43 : decode cX11_years 43 = .ok (.ireturn, 1) := by decide +kernel
theorem dX11_years_44 : decode cX11_years 44 = .ok (.aload_n 0, 1) := by decide +kernel
theorem dX11_years_45 : decode cX11_years 45 = .ok (.iload_n 1, 1) := by decide +kernel
theorem dX11_years_46 : decode cX11_years 46 = .ok (.invokevirtual 356, 3) := by decide +kernel
theorem dX11_years_49 : decode cX11_years 49 = .ok (.iload_n 2, 1) := by decide +kernel
theorem dX11_years_50 : decode cX11_years 50 = .ok (.iload_n 3, 1) := by decide +kernel
theorem dX11_years_51 : decode cX11_years 51 = .ok (.iadd, 1) := by decide +kernel
theorem dX11_years_52 : decode cX11_years 52 = .ok (.if_icmp .ge 5, 3) := by decide +kernel
theorem dX11_years_55 : decode cX11_years 55 = .ok (.iconst (-1), 1) := by decide +kernel
theorem dX11_years_56 : decode cX11_years 56 = .ok (.ireturn, 1) := by decide +kernel
theorem dX11_years_57 : decode cX11_years 57 = .ok (.iload_n 3, 1) := by decide +kernel
theorem dX11_years_58 : decode cX11_years 58 = .ok (.ifCond .ne 13, 3) := by decide +kernel
theorem dX11_years_61 : decode cX11_years 61 = .ok (.aload_n 0, 1) := by decide +kernel
theorem dX11_years_62 : decode cX11_years 62 = .ok (.iload_n 1, 1) := by decide +kernel
theorem dX11_years_63 : decode cX11_years 63 = .ok (.iload_n 2, 1) := by decide +kernel
theorem dX11_years_64 : decode cX11_years 64 = .ok (.iconst 0, 1) := by decide +kernel
theorem dX11_years_65 : decode cX11_years 65 = .ok (.invokevirtual 384, 3) := by decide +kernel
theorem dX11_years_68 : decode cX11_years 68 = .ok (.goto 18, 3) := by decide +kernel
theorem dX11_years_71 : decode cX11_years 71 = .ok (.aload_n 0, 1) := by decide +kernel
theorem dX11_years_72 : decode cX11_years 72 = .ok (.iload_n 1, 1) := by decide +kernel
theorem dX11_years_73 : decode cX11_years 73 = .ok (.iload_n 2, 1) := by decide +kernel
theorem dX11_years_74 : decode cX11_years 74 = .ok (.iconst 1, 1) := by decide +kernel
theorem dX11_years_75 : decode cX11_years 75 = .ok (.invokevirtual 384, 3) := by decide +kernel
theorem dX11_years_78 : decode cX11_years 78 = .ok (.aload_n 0, 1) := by decide +kernel
theorem dX11_years_79 : decode cX11_years 79 = .ok (.iload_n 1, 1) := by decide +kernel
theorem dX11_years_80 : decode cX11_years 80 = .ok (.iload_n 2, 1) := by decide +kernel
theorem dX11_years_81 : decode cX11_years 81 = .ok (.iconst 0, 1) := by decide +kernel
theorem dX11_years_82 : decode cX11_years 82 = .ok (.invokevirtual 384, 3) := by decide +kernel
theorem dX11_years_85 : decode cX11_years 85 = .ok (.isub, 1) := by decide +kernel
theorem dX11_years_86 : decode cX11_years 86 = .ok (.ireturn, 1) := by decide +kernel
theorem dX11_tellLasts_0 : decode cX11_tellLasts 0 = .ok (.iconst 0, 1) := by decide +kernel
theorem dX11_tellLasts_1 : decode cX11_tellLasts 1 = .ok (.istore_n 3, 1) := by decide +kernel
theorem dX11_tellLasts_2 : decode cX11_tellLasts 2 = .ok (.iload_n 3, 1) := by decide +kernel
theorem dX11_tellLasts_3 : decode cX11_tellLasts 3 = .ok (.aload_n 0, 1) := by decide +kernel
theorem dX11_tellLasts_4 : decode cX11_tellLasts 4 = .ok (.getfield 61, 3) := by decide +kernel
theorem dX11_tellLasts_7 : decode cX11_tellLasts 7 = .ok (.iload_n 1, 1) := by decide +kernel
theorem dX11_tellLasts_8 : decode cX11_tellLasts 8 = .ok (.iaload, 1) := by decide +kernel
theorem dX11_tellLasts_9 : decode cX11_tellLasts 9 = .ok (.if_icmp .ge 27, 3) := by decide +kernel
theorem dX11_tellLasts_12 : decode cX11_tellLasts 12 = .ok (.aload_n 0, 1) := by decide +kernel
theorem dX11_tellLasts_13 : decode cX11_tellLasts 13 = .ok (.getfield 108, 3) := by decide +kernel
theorem dX11_tellLasts_16 : decode cX11_tellLasts 16 = .ok (.iload_n 3, 1) := by decide +kernel
theorem dX11_tellLasts_17 : decode cX11_tellLasts 17 = .ok (.aload_n 0, 1) := by decide +kernel
theorem dX11_tellLasts_18 : decode cX11_tellLasts 18 = .ok (.getfield 70, 3) := by decide +kernel
theorem dX11_tellLasts_21 : decode cX11_tellLasts 21 = .ok (.sipush 2000, 3) := by decide +kernel
theorem dX11_tellLasts_24 : decode cX11_tellLasts 24 = .ok (.iload_n 1, 1) := by decide +kernel
theorem dX11_tellLasts_25 : decode cX11_tellLasts 25 = .ok (.imul, 1) := by decide +kernel
theorem dX11_tellLasts_26 : decode cX11_tellLasts 26 = .ok (.iload_n 3, 1) := by decide +kernel
theorem dX11_tellLasts_27 : decode cX11_tellLasts 27 = .ok (.iadd, 1) := by decide +kernel
theorem dX11_tellLasts_28 : decode cX11_tellLasts 28 = .ok (.baload, 1) := by decide +kernel
theorem dX11_tellLasts_29 : decode cX11_tellLasts 29 = .ok (.bastore, 1) := by decide +kernel
theorem dX11_tellLasts_30 : decode cX11_tellLasts 30 = .ok (.iinc 3 1, 3) := by decide +kernel
theorem dX11_tellLasts_33 : decode cX11_tellLasts 33 = .ok (.goto (-31), 3) := by decide +kernel
theorem dX11_tellLasts_36 : decode cX11_tellLasts 36 = .ok (.aload_n 0, 1) := by decide +kernel
theorem dX11_tellLasts_37 : decode cX11_tellLasts 37 = .ok (.iconst 0, 1) := by decide +kernel
theorem dX11_tellLasts_38 : decode cX11_tellLasts 38 = .ok (.putfield 388, 3) := by decide +kernel
theorem dX11_tellLasts_41 : decode cX11_tellLasts 41 = .ok (.iconst 0, 1) := by decide +kernel
theorem dX11_tellLasts_42 : decode cX11_tellLasts 42 = .ok (.istore_n 3, 1) := by decide +kernel
theorem dX11_tellLasts_43 : decode cX11_tellLasts 43 = .ok (.iload_n 3, 1) := by decide +kernel
theorem dX11_tellLasts_44 : decode cX11_tellLasts 44 = .ok (.aload_n 0, 1) := by decide +kernel
theorem dX11_tellLasts_45 : decode cX11_tellLasts 45 = .ok (.getfield 61, 3) := by decide +kernel
theorem dX11_tellLasts_48 : decode cX11_tellLasts 48 = .ok (.iload_n 1, 1) := by decide +kernel
theorem dX11_tellLasts_49 : decode cX11_tellLasts 49 = .ok (.iaload, 1) := by decide +kernel
theorem dX11_tellLasts_50 : decode cX11_tellLasts 50 = .ok (.if_icmp .ge 60, 3) := by decide +kernel
theorem dX11_tellLasts_53 : decode cX11_tellLasts 53 = .ok (.aload_n 0, 1) := by decide +kernel
theorem dX11_tellLasts_54 : decode cX11_tellLasts 54 = .ok (.getfield 388, 3) := by decide +kernel
theorem dX11_tellLasts_57 : decode cX11_tellLasts 57 = .ok (.iload_n 2, 1) := by decide +kernel
theorem dX11_tellLasts_58 : decode cX11_tellLasts 58 = .ok (.if_icmp .ge 52, 3) := by decide +kernel
theorem dX11_tellLasts_61 : decode cX11_tellLasts 61 = .ok (.aload_n 0, 1) := by decide +kernel
theorem dX11_tellLasts_62 : decode cX11_tellLasts 62 = .ok (.getfield 108, 3) := by decide +kernel
theorem dX11_tellLasts_65 : decode cX11_tellLasts 65 = .ok (.iload_n 3, 1) := by decide +kernel
theorem dX11_tellLasts_66 : decode cX11_tellLasts 66 = .ok (.baload, 1) := by decide +kernel
theorem dX11_tellLasts_67 : decode cX11_tellLasts 67 = .ok (.ifCond .eq 6, 3) := by decide +kernel
theorem dX11_tellLasts_70 : decode cX11_tellLasts 70 = .ok (.goto 34, 3) := by decide +kernel
theorem dX11_tellLasts_73 : decode cX11_tellLasts 73 = .ok (.aload_n 0, 1) := by decide +kernel
theorem dX11_tellLasts_74 : decode cX11_tellLasts 74 = .ok (.getfield 111, 3) := by decide +kernel
theorem dX11_tellLasts_77 : decode cX11_tellLasts 77 = .ok (.aload_n 0, 1) := by decide +kernel
theorem dX11_tellLasts_78 : decode cX11_tellLasts 78 = .ok (.getfield 388, 3) := by decide +kernel
theorem dX11_tellLasts_81 : decode cX11_tellLasts 81 = .ok (.iload_n 3, 1) := by decide +kernel
theorem dX11_tellLasts_82 : decode cX11_tellLasts 82 = .ok (.iastore, 1) := by decide +kernel
theorem dX11_tellLasts_83 : decode cX11_tellLasts 83 = .ok (.aload_n 0, 1) := by decide +kernel
theorem dX11_tellLasts_84 : decode cX11_tellLasts 84 = .ok (.dup, 1) := by decide +kernel
theorem dX11_tellLasts_85 : decode cX11_tellLasts 85 = .ok (.getfield 388, 3) := by decide +kernel
theorem dX11_tellLasts_88 : decode cX11_tellLasts 88 = .ok (.iconst 1, 1) := by decide +kernel
theorem dX11_tellLasts_89 : decode cX11_tellLasts 89 = .ok (.iadd, 1) := by decide +kernel
theorem dX11_tellLasts_90 : decode cX11_tellLasts 90 = .ok (.putfield 388, 3) := by decide +kernel
theorem dX11_tellLasts_93 : decode cX11_tellLasts 93 = .ok (.aload_n 0, 1) := by decide +kernel
theorem dX11_tellLasts_94 : decode cX11_tellLasts 94 = .ok (.iload_n 1, 1) := by decide +kernel
theorem dX11_tellLasts_95 : decode cX11_tellLasts 95 = .ok (.iload_n 3, 1) := by decide +kernel
theorem dX11_tellLasts_96 : decode cX11_tellLasts 96 = .ok (.aload_n 0, 1) := by decide +kernel
theorem dX11_tellLasts_97 : decode cX11_tellLasts 97 = .ok (.getfield 108, 3) := by decide +kernel
theorem dX11_tellLasts_100 : decode cX11_tellLasts 100 = .ok (.iconst 0, 1) := by decide +kernel
theorem dX11_tellLasts_101 : decode cX11_tellLasts 101 = .ok (.invokevirtual 352, 3) := by decide +kernel
theorem dX11_tellLasts_104 : decode cX11_tellLasts 104 = .ok (.iinc 3 1, 3) := by decide +kernel
theorem dX11_tellLasts_107 : decode cX11_tellLasts 107 = .ok (.goto (-64), 3) := by decide +kernel
theorem dX11_tellLasts_110 : decode cX11_tellLasts 110 = .ok (.return_, 1) := by decide +kernel
theorem dX11_lasts_0 : decode cX11_lasts 0 = .ok (.aload_n 0, 1) := by decide +kernel
theorem dX11_lasts_1 : decode cX11_lasts 1 = .ok (.iconst 0, 1) := by decide +kernel
theorem dX11_lasts_2 : decode cX11_lasts 2 = .ok (.putfield 154, 3) := by decide +kernel
theorem dX11_lasts_5 : decode cX11_lasts 5 = .ok (.aload_n 0, 1) := by decide +kernel
theorem dX11_lasts_6 : decode cX11_lasts 6 = .ok (.iload_n 1, 1) := by decide +kernel
theorem dX11_lasts_7 : decode cX11_lasts 7 = .ok (.invokevirtual 164, 3) := by decide +kernel
theorem dX11_lasts_10 : decode cX11_lasts 10 = .ok (.ifCond .eq 12, 3) := by decide +kernel
theorem dX11_lasts_13 : decode cX11_lasts 13 = .ok (.iload_n 2, 1) := by decide +kernel
theorem dX11_lasts_14 : decode cX11_lasts 14 = .ok (.iconst 0, 1) := by decide +kernel
theorem dX11_lasts_15 : decode cX11_lasts 15 = .ok (.iconst 2, 1) := by decide +kernel
theorem dX11_lasts_16 : decode cX11_lasts 16 = .ok (.invokestatic 160, 3) := by decide +kernel
theorem dX11_lasts_19 : decode cX11_lasts 19 = .ok (.ifCond .ne 9, 3) := by decide +kernel
theorem dX11_lasts_22 : decode cX11_lasts 22 = .ok (.aload_n 0, 1) := by decide +kernel
theorem dX11_lasts_23 : decode cX11_lasts 23 = .ok (.iconst 1, 1) := by decide +kernel
theorem dX11_lasts_24 : decode cX11_lasts 24 = .ok (.invokevirtual 287, 3) := by decide +kernel
theorem dX11_lasts_27 : decode cX11_lasts 27 = .ok (.ireturn, 1) := by decide +kernel
theorem dX11_lasts_28 : decode cX11_lasts 28 = .ok (.aload_n 0, 1) := by decide +kernel
theorem dX11_lasts_29 : decode cX11_lasts 29 = .ok (.iload_n 1, 1) := by decide +kernel
theorem dX11_lasts_30 : decode cX11_lasts 30 = .ok (.sipush 2000, 3) := by decide +kernel
theorem dX11_lasts_33 : decode cX11_lasts 33 = .ok (.invokevirtual 391, 3) := by decide +kernel
theorem dX11_lasts_36 : decode cX11_lasts 36 = .ok (.iload_n 2, 1) := by decide +kernel
theorem dX11_lasts_37 : decode cX11_lasts 37 = .ok (.iconst 2, 1) := by decide +kernel
theorem dX11_lasts_38 : decode cX11_lasts 38 = .ok (.if_icmp .ge 37, 3) := by decide +kernel
theorem dX11_lasts_41 : decode cX11_lasts 41 = .ok (.iload_n 2, 1) := by decide +kernel
theorem dX11_lasts_42 : decode cX11_lasts 42 = .ok (.ifCond .ne 10, 3) := by decide +kernel
theorem dX11_lasts_45 : decode cX11_lasts 45 = .ok (.aload_n 0, 1) := by decide +kernel
theorem dX11_lasts_46 : decode cX11_lasts 46 = .ok (.getfield 388, 3) := by decide +kernel
theorem dX11_lasts_49 : decode cX11_lasts 49 = .ok (.goto 25, 3) := by decide +kernel
theorem dX11_lasts_52 : decode cX11_lasts 52 = .ok (.aload_n 0, 1) := by decide +kernel
theorem dX11_lasts_53 : decode cX11_lasts 53 = .ok (.getfield 388, 3) := by decide +kernel
theorem dX11_lasts_56 : decode cX11_lasts 56 = .ok (.ifCond .ne 7, 3) := by decide +kernel
theorem dX11_lasts_59 : decode cX11_lasts 59 = .ok (.iconst (-1), 1) := by decide +kernel
theorem dX11_lasts_60 : decode cX11_lasts 60 = .ok (.goto 14, 3) := by decide +kernel
theorem dX11_lasts_63 : decode cX11_lasts 63 = .ok (.aload_n 0, 1) := by decide +kernel
theorem dX11_lasts_64 : decode cX11_lasts 64 = .ok (.getfield 111, 3) := by decide +kernel
theorem dX11_lasts_67 : decode cX11_lasts 67 = .ok (.aload_n 0, 1) := by decide +kernel
theorem dX11_lasts_68 : decode cX11_lasts 68 = .ok (.getfield 388, 3) := by decide +kernel
theorem dX11_lasts_71 : decode cX11_lasts 71 = .ok (.iconst 1, 1) := by decide +kernel
theorem dX11_lasts_72 : decode cX11_lasts 72 = .ok (.isub, 1) := by decide +kernel
theorem dX11_lasts_73 : decode cX11_lasts 73 = .ok (.iaload, 1) := by decide +kernel
theorem dX11_lasts_74 : decode cX11_lasts 74 = .ok (.ireturn, 1) := by decide +kernel
theorem dX11_lasts_75 : decode cX11_lasts 75 = .ok (.iconst 0, 1) := by decide +kernel
theorem dX11_lasts_76 : decode cX11_lasts 76 = .ok (.istore_n 3, 1) := by decide +kernel
theorem dX11_lasts_77 : decode cX11_lasts 77 = .ok (.iconst 0, 1) := by decide +kernel
theorem dX11_lasts_78 : decode cX11_lasts 78 = .ok (.istore 4, 2) := by decide +kernel
theorem dX11_lasts_80 : decode cX11_lasts 80 = .ok (.iload 4, 2) := by decide +kernel
theorem dX11_lasts_82 : decode cX11_lasts 82 = .ok (.aload_n 0, 1) := by decide +kernel
theorem dX11_lasts_83 : decode cX11_lasts 83 = .ok (.getfield 388, 3) := by decide +kernel
theorem dX11_lasts_86 : decode cX11_lasts 86 = .ok (.if_icmp .ge 30, 3) := by decide +kernel
theorem dX11_lasts_89 : decode cX11_lasts 89 = .ok (.iload_n 3, 1) := by decide +kernel
theorem dX11_lasts_90 : decode cX11_lasts 90 = .ok (.aload_n 0, 1) := by decide +kernel
theorem dX11_lasts_91 : decode cX11_lasts 91 = .ok (.getfield 64, 3) := by decide +kernel
theorem dX11_lasts_94 : decode cX11_lasts 94 = .ok (.sipush 2000, 3) := by decide +kernel
theorem dX11_lasts_97 : decode cX11_lasts 97 = .ok (.iload_n 1, 1) := by decide +kernel
theorem dX11_lasts_98 : decode cX11_lasts 98 = .ok (.imul, 1) := by decide +kernel
theorem dX11_lasts_99 : decode cX11_lasts 99 = .ok (.aload_n 0, 1) := by decide +kernel
theorem dX11_lasts_100 : decode cX11_lasts 100 = .ok (.getfield 111, 3) := by decide +kernel
theorem dX11_lasts_103 : decode cX11_lasts 103 = .ok (.iload 4, 2) := by decide +kernel
theorem dX11_lasts_105 : decode cX11_lasts 105 = .ok (.iaload, 1) := by decide +kernel
theorem dX11_lasts_106 : decode cX11_lasts 106 = .ok (.iadd, 1) := by decide +kernel
theorem dX11_lasts_107 : decode cX11_lasts 107 = .ok (.iaload, 1) := by decide +kernel
theorem dX11_lasts_108 : decode cX11_lasts 108 = .ok (.iadd, 1) := by decide +kernel
theorem dX11_lasts_109 : decode cX11_lasts 109 = .ok (.istore_n 3, 1) := by decide +kernel
theorem dX11_lasts_110 : decode cX11_lasts 110 = .ok (.iinc 4 1, 3) := by decide +kernel
theorem dX11_lasts_113 : decode cX11_lasts 113 = .ok (.goto (-33), 3) := by decide +kernel
theorem dX11_lasts_116 : decode cX11_lasts 116 = .ok (.iload_n 3, 1) := by decide +kernel
theorem dX11_lasts_117 : decode cX11_lasts 117 = .ok (.ireturn, 1) := by decide +kernel
theorem dX11_chance_0 : decode cX11_chance 0 = .ok (.aload_n 0, 1) := by decide +kernel
theorem dX11_chance_1 : decode cX11_chance 1 = .ok (.iconst 0, 1) := by decide +kernel
theorem dX11_chance_2 : decode cX11_chance 2 = .ok (.putfield 154, 3) := by decide +kernel
theorem dX11_chance_5 : decode cX11_chance 5 = .ok (.aload_n 0, 1) := by decide +kernel
theorem dX11_chance_6 : decode cX11_chance 6 = .ok (.iload_n 1, 1) := by decide +kernel
theorem dX11_chance_7 : decode cX11_chance 7 = .ok (.invokevirtual 164, 3) := by decide +kernel
theorem dX11_chance_10 : decode cX11_chance 10 = .ok (.ifCond .ne 9, 3) := by decide +kernel
theorem dX11_chance_13 : decode cX11_chance 13 = .ok (.aload_n 0, 1) := by decide +kernel
theorem dX11_chance_14 : decode cX11_chance 14 = .ok (.iconst 1, 1) := by decide +kernel
theorem dX11_chance_15 : decode cX11_chance 15 = .ok (.invokevirtual 287, 3) := by decide +kernel
theorem dX11_chance_18 : decode cX11_chance 18 = .ok (.ireturn, 1) := by decide +kernel
theorem dX11_chance_19 : decode cX11_chance 19 = .ok (.iload_n 2, 1) := by decide +kernel
theorem dX11_chance_20 : decode cX11_chance 20 = .ok (.iconst 0, 1) := by decide +kernel
theorem dX11_chance_21 : decode cX11_chance 21 = .ok (.sipush 1000, 3) := by decide +kernel
theorem dX11_chance_24 : decode cX11_chance 24 = .ok (.invokestatic 160, 3) := by decide +kernel
theorem dX11_chance_27 : decode cX11_chance 27 = .ok (.ifCond .eq 13, 3) := by decide +kernel
theorem dX11_chance_30 : decode cX11_chance 30 = .ok (.iload_n 3, 1) := by decide +kernel
theorem dX11_chance_31 : decode cX11_chance 31 = .ok (.iconst 0, 1) := by decide +kernel
theorem dX11_chance_32 : decode cX11_chance 32 = .ok (.bipush 100, 2) := by decide +kernel
theorem dX11_chance_34 : decode cX11_chance 34 = .ok (.invokestatic 160, 3) := by decide +kernel
theorem dX11_chance_37 : decode cX11_chance 37 = .ok (.ifCond .ne 9, 3) := by decide +kernel
theorem dX11_chance_40 : decode cX11_chance 40 = .ok (.aload_n 0, 1) := by decide +kernel
theorem dX11_chance_41 : decode cX11_chance 41 = .ok (.iconst 2, 1) := by decide +kernel
theorem dX11_chance_42 : decode cX11_chance 42 = .ok (.invokevirtual 287, 3) := by decide +kernel
theorem dX11_chance_45 : decode cX11_chance 45 = .ok (.ireturn, 1) := by decide +kernel
theorem dX11_chance_46 : decode cX11_chance 46 = .ok (.aload_n 0, 1) := by decide +kernel
theorem dX11_chance_47 : decode cX11_chance 47 = .ok (.iload_n 1, 1) := by decide +kernel
theorem dX11_chance_48 : decode cX11_chance 48 = .ok (.bipush 100, 2) := by decide +kernel
theorem dX11_chance_50 : decode cX11_chance 50 = .ok (.invokevirtual 391, 3) := by decide +kernel
theorem dX11_chance_53 : decode cX11_chance 53 = .ok (.iconst 0, 1) := by decide +kernel
theorem dX11_chance_54 : decode cX11_chance 54 = .ok (.istore 4, 2) := by decide +kernel
theorem dX11_chance_56 : decode cX11_chance 56 = .ok (.iload 4, 2) := by decide +kernel
theorem dX11_chance_58 : decode cX11_chance 58 = .ok (.bipush 100, 2) := by decide +kernel
theorem dX11_chance_60 : decode cX11_chance 60 = .ok (.if_icmp .gt 17, 3) := by decide +kernel
theorem dX11_chance_63 : decode cX11_chance 63 = .ok (.aload_n 0, 1) := by decide +kernel
theorem dX11_chance_64 : decode cX11_chance 64 = .ok (.getfield 114, 3) := by decide +kernel
theorem dX11_chance_67 : decode cX11_chance 67 = .ok (.iload 4, 2) := by decide +kernel
theorem dX11_chance_69 : decode cX11_chance 69 = .ok (.lconst 0, 1) := by decide +kernel
theorem dX11_chance_70 : decode cX11_chance 70 = .ok (.lastore, 1) := by decide +kernel
theorem dX11_chance_71 : decode cX11_chance 71 = .ok (.iinc 4 1, 3) := by decide +kernel
theorem dX11_chance_74 : decode cX11_chance 74 = .ok (.goto (-18), 3) := by decide +kernel
theorem dX11_chance_77 : decode cX11_chance 77 = .ok (.aload_n 0, 1) := by decide +kernel
theorem dX11_chance_78 : decode cX11_chance 78 = .ok (.getfield 114, 3) := by decide +kernel
theorem dX11_chance_81 : decode cX11_chance 81 = .ok (.iconst 0, 1) := by decide +kernel
theorem dX11_chance_82 : decode cX11_chance 82 = .ok (.ldc2_w 394, 3) := by decide +kernel
theorem dX11_chance_85 : decode cX11_chance 85 = .ok (.lastore, 1) := by decide +kernel
theorem dX11_chance_86 : decode cX11_chance 86 = .ok (.lconst 0, 1) := by decide +kernel
theorem dX11_chance_87 : decode cX11_chance 87 = .ok (.lstore 4, 2) := by decide +kernel
theorem dX11_chance_89 : decode cX11_chance 89 = .ok (.iconst 0, 1) := by decide +kernel
theorem dX11_chance_90 : decode cX11_chance 90 = .ok (.istore 6, 2) := by decide +kernel
theorem dX11_chance_92 : decode cX11_chance 92 = .ok (.iload 6, 2) := by decide +kernel
theorem dX11_chance_94 : decode cX11_chance 94 = .ok (.iload_n 3, 1) := by decide +kernel
theorem dX11_chance_95 : decode cX11_chance 95 = .ok (.if_icmp .ge 178, 3) := by decide +kernel
theorem dX11_chance_98 : decode cX11_chance 98 = .ok (.iconst 0, 1) := by decide +kernel
theorem dX11_chance_99 : decode cX11_chance 99 = .ok (.istore 7, 2) := by decide +kernel
theorem dX11_chance_101 : decode cX11_chance 101 = .ok (.iload 7, 2) := by decide +kernel
theorem dX11_chance_103 : decode cX11_chance 103 = .ok (.bipush 100, 2) := by decide +kernel
theorem dX11_chance_105 : decode cX11_chance 105 = .ok (.if_icmp .gt 17, 3) := by decide +kernel
theorem dX11_chance_108 : decode cX11_chance 108 = .ok (.aload_n 0, 1) := by decide +kernel
theorem dX11_chance_109 : decode cX11_chance 109 = .ok (.getfield 118, 3) := by decide +kernel
theorem dX11_chance_112 : decode cX11_chance 112 = .ok (.iload 7, 2) := by decide +kernel
theorem dX11_chance_114 : decode cX11_chance 114 = .ok (.lconst 0, 1) := by decide +kernel
theorem dX11_chance_115 : decode cX11_chance 115 = .ok (.lastore, 1) := by decide +kernel
theorem dX11_chance_116 : decode cX11_chance 116 = .ok (.iinc 7 1, 3) := by decide +kernel
theorem dX11_chance_119 : decode cX11_chance 119 = .ok (.goto (-18), 3) := by decide +kernel
theorem dX11_chance_122 : decode cX11_chance 122 = .ok (.iconst 0, 1) := by decide +kernel
theorem dX11_chance_123 : decode cX11_chance 123 = .ok (.istore 7, 2) := by decide +kernel
theorem dX11_chance_125 : decode cX11_chance 125 = .ok (.iload 7, 2) := by decide +kernel
theorem dX11_chance_127 : decode cX11_chance 127 = .ok (.bipush 100, 2) := by decide +kernel
theorem dX11_chance_129 : decode cX11_chance 129 = .ok (.if_icmp .gt 108, 3) := by decide +kernel
theorem dX11_chance_132 : decode cX11_chance 132 = .ok (.iload 7, 2) := by decide +kernel
theorem dX11_chance_134 : decode cX11_chance 134 = .ok (.aload_n 0, 1) := by decide +kernel
theorem dX11_chance_135 : decode cX11_chance 135 = .ok (.getfield 388, 3) := by decide +kernel
theorem dX11_chance_138 : decode cX11_chance 138 = .ok (.if_icmp .ge 20, 3) := by decide +kernel
theorem dX11_chance_141 : decode cX11_chance 141 = .ok (.aload_n 0, 1) := by decide +kernel
theorem dX11_chance_142 : decode cX11_chance 142 = .ok (.getfield 114, 3) := by decide +kernel
theorem dX11_chance_145 : decode cX11_chance 145 = .ok (.iload 7, 2) := by decide +kernel
theorem dX11_chance_147 : decode cX11_chance 147 = .ok (.laload, 1) := by decide +kernel
theorem dX11_chance_148 : decode cX11_chance 148 = .ok (.iload_n 2, 1) := by decide +kernel
theorem dX11_chance_149 : decode cX11_chance 149 = .ok (.i2l, 1) := by decide +kernel
theorem dX11_chance_150 : decode cX11_chance 150 = .ok (.lmul, 1) := by decide +kernel
theorem dX11_chance_151 : decode cX11_chance 151 = .ok (.ldc2_w 396, 3) := by decide +kernel
theorem dX11_chance_154 : decode cX11_chance 154 = .ok (.ldiv, 1) := by decide +kernel
theorem dX11_chance_155 : decode cX11_chance 155 = .ok (.goto 4, 3) := by decide +kernel
theorem dX11_chance_158 : decode cX11_chance 158 = .ok (.lconst 0, 1) := by decide +kernel
theorem dX11_chance_159 : decode cX11_chance 159 = .ok (.lstore 8, 2) := by decide +kernel
theorem dX11_chance_161 : decode cX11_chance 161 = .ok (.aload_n 0, 1) := by decide +kernel
theorem dX11_chance_162 : decode cX11_chance 162 = .ok (.getfield 118, 3) := by decide +kernel
theorem dX11_chance_165 : decode cX11_chance 165 = .ok (.iload 7, 2) := by decide +kernel
theorem dX11_chance_167 : decode cX11_chance 167 = .ok (.dup2, 1) := by decide +kernel
theorem dX11_chance_168 : decode cX11_chance 168 = .ok (.laload, 1) := by decide +kernel
theorem dX11_chance_169 : decode cX11_chance 169 = .ok (.aload_n 0, 1) := by decide +kernel
theorem dX11_chance_170 : decode cX11_chance 170 = .ok (.getfield 114, 3) := by decide +kernel
theorem dX11_chance_173 : decode cX11_chance 173 = .ok (.iload 7, 2) := by decide +kernel
theorem dX11_chance_175 : decode cX11_chance 175 = .ok (.laload, 1) := by decide +kernel
theorem dX11_chance_176 : decode cX11_chance 176 = .ok (.lload 8, 2) := by decide +kernel
theorem dX11_chance_178 : decode cX11_chance 178 = .ok (.lsub, 1) := by decide +kernel
theorem dX11_chance_179 : decode cX11_chance 179 = .ok (.ladd, 1) := by decide +kernel
theorem dX11_chance_180 : decode cX11_chance 180 = .ok (.lastore, 1) := by decide +kernel
theorem dX11_chance_181 : decode cX11_chance 181 = .ok (.iload 7, 2) := by decide +kernel
theorem dX11_chance_183 : decode cX11_chance 183 = .ok (.aload_n 0, 1) := by decide +kernel
theorem dX11_chance_184 : decode cX11_chance 184 = .ok (.getfield 388, 3) := by decide +kernel
theorem dX11_chance_187 : decode cX11_chance 187 = .ok (.if_icmp .ge 44, 3) := by decide +kernel
theorem dX11_chance_190 : decode cX11_chance 190 = .ok (.aload_n 0, 1) := by decide +kernel
theorem dX11_chance_191 : decode cX11_chance 191 = .ok (.getfield 118, 3) := by decide +kernel
theorem dX11_chance_194 : decode cX11_chance 194 = .ok (.iload 7, 2) := by decide +kernel
theorem dX11_chance_196 : decode cX11_chance 196 = .ok (.iconst 1, 1) := by decide +kernel
theorem dX11_chance_197 : decode cX11_chance 197 = .ok (.iadd, 1) := by decide +kernel
theorem dX11_chance_198 : decode cX11_chance 198 = .ok (.dup2, 1) := by decide +kernel
theorem dX11_chance_199 : decode cX11_chance 199 = .ok (.laload, 1) := by decide +kernel
theorem dX11_chance_200 : decode cX11_chance 200 = .ok (.lload 8, 2) := by decide +kernel
theorem dX11_chance_202 : decode cX11_chance 202 = .ok (.ladd, 1) := by decide +kernel
theorem dX11_chance_203 : decode cX11_chance 203 = .ok (.lastore, 1) := by decide +kernel
theorem dX11_chance_204 : decode cX11_chance 204 = .ok (.lload 4, 2) := by decide +kernel
theorem dX11_chance_206 : decode cX11_chance 206 = .ok (.lload 8, 2) := by decide +kernel
theorem dX11_chance_208 : decode cX11_chance 208 = .ok (.aload_n 0, 1) := by decide +kernel
theorem dX11_chance_209 : decode cX11_chance 209 = .ok (.getfield 64, 3) := by decide +kernel
theorem dX11_chance_212 : decode cX11_chance 212 = .ok (.sipush 2000, 3) := by decide +kernel
theorem dX11_chance_215 : decode cX11_chance 215 = .ok (.iload_n 1, 1) := by decide +kernel
theorem dX11_chance_216 : decode cX11_chance 216 = .ok (.imul, 1) := by decide +kernel
theorem dX11_chance_217 : decode cX11_chance 217 = .ok (.aload_n 0, 1) := by decide +kernel
theorem dX11_chance_218 : decode cX11_chance 218 = .ok (.getfield 111, 3) := by decide +kernel
theorem dX11_chance_221 : decode cX11_chance 221 = .ok (.iload 7, 2) := by decide +kernel
theorem dX11_chance_223 : decode cX11_chance 223 = .ok (.iaload, 1) := by decide +kernel
theorem dX11_chance_224 : decode cX11_chance 224 = .ok (.iadd, 1) := by decide +kernel
theorem dX11_chance_225 : decode cX11_chance 225 = .ok (.iaload, 1) := by decide +kernel
theorem dX11_chance_226 : decode cX11_chance 226 = .ok (.i2l, 1) := by decide +kernel
theorem dX11_chance_227 : decode cX11_chance 227 = .ok (.lmul, 1) := by decide +kernel
theorem dX11_chance_228 : decode cX11_chance 228 = .ok (.ladd, 1) := by decide +kernel
theorem dX11_chance_229 : decode cX11_chance 229 = .ok (.lstore 4, 2) := by decide +kernel
theorem dX11_chance_231 : decode cX11_chance 231 = .ok (.iinc 7 1, 3) := by decide +kernel
theorem dX11_chance_234 : decode cX11_chance 234 = .ok (.goto (-109), 3) := by decide +kernel
theorem dX11_chance_237 : decode cX11_chance 237 = .ok (.iconst 0, 1) := by decide +kernel
theorem dX11_chance_238 : decode cX11_chance 238 = .ok (.istore 7, 2) := by decide +kernel
theorem dX11_chance_240 : decode cX11_chance 240 = .ok (.iload 7, 2) := by decide +kernel
theorem dX11_chance_242 : decode cX11_chance 242 = .ok (.bipush 100, 2) := by decide +kernel
theorem dX11_chance_244 : decode cX11_chance 244 = .ok (.if_icmp .gt 23, 3) := by decide +kernel
theorem dX11_chance_247 : decode cX11_chance 247 = .ok (.aload_n 0, 1) := by decide +kernel
theorem dX11_chance_248 : decode cX11_chance 248 = .ok (.getfield 114, 3) := by decide +kernel
theorem dX11_chance_251 : decode cX11_chance 251 = .ok (.iload 7, 2) := by decide +kernel
theorem dX11_chance_253 : decode cX11_chance 253 = .ok (.aload_n 0, 1) := by decide +kernel
theorem dX11_chance_254 : decode cX11_chance 254 = .ok (.getfield 118, 3) := by decide +kernel
theorem dX11_chance_257 : decode cX11_chance 257 = .ok (.iload 7, 2) := by decide +kernel
theorem dX11_chance_259 : decode cX11_chance 259 = .ok (.laload, 1) := by decide +kernel
theorem dX11_chance_260 : decode cX11_chance 260 = .ok (.lastore, 1) := by decide +kernel
theorem dX11_chance_261 : decode cX11_chance 261 = .ok (.iinc 7 1, 3) := by decide +kernel
theorem dX11_chance_264 : decode cX11_chance 264 = .ok (.goto (-24), 3) := by decide +kernel
theorem dX11_chance_267 : decode cX11_chance 267 = .ok (.iinc 6 1, 3) := by decide +kernel
theorem dX11_chance_270 : decode cX11_chance 270 = .ok (.goto (-178), 3) := by decide +kernel
theorem dX11_chance_273 : decode cX11_chance 273 = .ok (.lload 4, 2) := by decide +kernel
theorem dX11_chance_275 : decode cX11_chance 275 = .ok (.ldc2_w 398, 3) := by decide +kernel
theorem dX11_chance_278 : decode cX11_chance 278 = .ok (.ldiv, 1) := by decide +kernel
theorem dX11_chance_279 : decode cX11_chance 279 = .ok (.l2i, 1) := by decide +kernel
theorem dX11_chance_280 : decode cX11_chance 280 = .ok (.ireturn, 1) := by decide +kernel
theorem dX11_jointCost_0 : decode cX11_jointCost 0 = .ok (.iconst 0, 1) := by decide +kernel
theorem dX11_jointCost_1 : decode cX11_jointCost 1 = .ok (.istore 4, 2) := by decide +kernel
theorem dX11_jointCost_3 : decode cX11_jointCost 3 = .ok (.iconst 0, 1) := by decide +kernel
theorem dX11_jointCost_4 : decode cX11_jointCost 4 = .ok (.istore 5, 2) := by decide +kernel
theorem dX11_jointCost_6 : decode cX11_jointCost 6 = .ok (.iload 5, 2) := by decide +kernel
theorem dX11_jointCost_8 : decode cX11_jointCost 8 = .ok (.bipush 12, 2) := by decide +kernel
theorem dX11_jointCost_10 : decode cX11_jointCost 10 = .ok (.if_icmp .ge 48, 3) := by decide +kernel
theorem dX11_jointCost_13 : decode cX11_jointCost 13 = .ok (.iload 4, 2) := by decide +kernel
theorem dX11_jointCost_15 : decode cX11_jointCost 15 = .ok (.iload_n 3, 1) := by decide +kernel
theorem dX11_jointCost_16 : decode cX11_jointCost 16 = .ok (.iload 5, 2) := by decide +kernel
theorem dX11_jointCost_18 : decode cX11_jointCost 18 = .ok (.ishr, 1) := by decide +kernel
theorem dX11_jointCost_19 : decode cX11_jointCost 19 = .ok (.iconst 1, 1) := by decide +kernel
theorem dX11_jointCost_20 : decode cX11_jointCost 20 = .ok (.iand, 1) := by decide +kernel
theorem dX11_jointCost_21 : decode cX11_jointCost 21 = .ok (.aload_n 0, 1) := by decide +kernel
theorem dX11_jointCost_22 : decode cX11_jointCost 22 = .ok (.getfield 49, 3) := by decide +kernel
theorem dX11_jointCost_25 : decode cX11_jointCost 25 = .ok (.bipush 20, 2) := by decide +kernel
theorem dX11_jointCost_27 : decode cX11_jointCost 27 = .ok (.iload_n 1, 1) := by decide +kernel
theorem dX11_jointCost_28 : decode cX11_jointCost 28 = .ok (.imul, 1) := by decide +kernel
theorem dX11_jointCost_29 : decode cX11_jointCost 29 = .ok (.iload 5, 2) := by decide +kernel
theorem dX11_jointCost_31 : decode cX11_jointCost 31 = .ok (.iadd, 1) := by decide +kernel
theorem dX11_jointCost_32 : decode cX11_jointCost 32 = .ok (.iaload, 1) := by decide +kernel
theorem dX11_jointCost_33 : decode cX11_jointCost 33 = .ok (.aload_n 0, 1) := by decide +kernel
theorem dX11_jointCost_34 : decode cX11_jointCost 34 = .ok (.getfield 49, 3) := by decide +kernel
theorem dX11_jointCost_37 : decode cX11_jointCost 37 = .ok (.bipush 20, 2) := by decide +kernel
theorem dX11_jointCost_39 : decode cX11_jointCost 39 = .ok (.iload_n 2, 1) := by decide +kernel
theorem dX11_jointCost_40 : decode cX11_jointCost 40 = .ok (.imul, 1) := by decide +kernel
theorem dX11_jointCost_41 : decode cX11_jointCost 41 = .ok (.iload 5, 2) := by decide +kernel
theorem dX11_jointCost_43 : decode cX11_jointCost 43 = .ok (.iadd, 1) := by decide +kernel
theorem dX11_jointCost_44 : decode cX11_jointCost 44 = .ok (.iaload, 1) := by decide +kernel
theorem dX11_jointCost_45 : decode cX11_jointCost 45 = .ok (.invokestatic 400, 3) := by decide +kernel
theorem dX11_jointCost_48 : decode cX11_jointCost 48 = .ok (.imul, 1) := by decide +kernel
theorem dX11_jointCost_49 : decode cX11_jointCost 49 = .ok (.iadd, 1) := by decide +kernel
theorem dX11_jointCost_50 : decode cX11_jointCost 50 = .ok (.istore 4, 2) := by decide +kernel
theorem dX11_jointCost_52 : decode cX11_jointCost 52 = .ok (.iinc 5 1, 3) := by decide +kernel
theorem dX11_jointCost_55 : decode cX11_jointCost 55 = .ok (.goto (-49), 3) := by decide +kernel
theorem dX11_jointCost_58 : decode cX11_jointCost 58 = .ok (.iload 4, 2) := by decide +kernel
theorem dX11_jointCost_60 : decode cX11_jointCost 60 = .ok (.ireturn, 1) := by decide +kernel
theorem dX11_joint_0 : decode cX11_joint 0 = .ok (.aload_n 0, 1) := by decide +kernel
theorem dX11_joint_1 : decode cX11_joint 1 = .ok (.iconst 0, 1) := by decide +kernel
theorem dX11_joint_2 : decode cX11_joint 2 = .ok (.putfield 154, 3) := by decide +kernel
theorem dX11_joint_5 : decode cX11_joint 5 = .ok (.aload_n 0, 1) := by decide +kernel
theorem dX11_joint_6 : decode cX11_joint 6 = .ok (.iload_n 1, 1) := by decide +kernel
theorem dX11_joint_7 : decode cX11_joint 7 = .ok (.invokevirtual 164, 3) := by decide +kernel
theorem dX11_joint_10 : decode cX11_joint 10 = .ok (.ifCond .eq 45, 3) := by decide +kernel
theorem dX11_joint_13 : decode cX11_joint 13 = .ok (.aload_n 0, 1) := by decide +kernel
theorem dX11_joint_14 : decode cX11_joint 14 = .ok (.iload_n 2, 1) := by decide +kernel
theorem dX11_joint_15 : decode cX11_joint 15 = .ok (.invokevirtual 164, 3) := by decide +kernel
theorem dX11_joint_18 : decode cX11_joint 18 = .ok (.ifCond .eq 37, 3) := by decide +kernel
theorem dX11_joint_21 : decode cX11_joint 21 = .ok (.iload_n 1, 1) := by decide +kernel
theorem dX11_joint_22 : decode cX11_joint 22 = .ok (.iload_n 2, 1) := by decide +kernel
theorem dX11_joint_23 : decode cX11_joint 23 = .ok (.if_icmp .eq 32, 3) := by decide +kernel
theorem dX11_joint_26 : decode cX11_joint 26 = .ok (.aload_n 0, 1) := by decide +kernel
theorem dX11_joint_27 : decode cX11_joint 27 = .ok (.getfield 21, 3) := by decide +kernel
theorem dX11_joint_30 : decode cX11_joint 30 = .ok (.iload_n 1, 1) := by decide +kernel
theorem dX11_joint_31 : decode cX11_joint 31 = .ok (.iaload, 1) := by decide +kernel
theorem dX11_joint_32 : decode cX11_joint 32 = .ok (.iconst 1, 1) := by decide +kernel
theorem dX11_joint_33 : decode cX11_joint 33 = .ok (.if_icmp .ne 22, 3) := by decide +kernel
theorem dX11_joint_36 : decode cX11_joint 36 = .ok (.aload_n 0, 1) := by decide +kernel
theorem dX11_joint_37 : decode cX11_joint 37 = .ok (.getfield 21, 3) := by decide +kernel
theorem dX11_joint_40 : decode cX11_joint 40 = .ok (.iload_n 2, 1) := by decide +kernel
theorem dX11_joint_41 : decode cX11_joint 41 = .ok (.iaload, 1) := by decide +kernel
theorem dX11_joint_42 : decode cX11_joint 42 = .ok (.iconst 1, 1) := by decide +kernel
theorem dX11_joint_43 : decode cX11_joint 43 = .ok (.if_icmp .ne 12, 3) := by decide +kernel
theorem dX11_joint_46 : decode cX11_joint 46 = .ok (.iload_n 3, 1) := by decide +kernel
theorem dX11_joint_47 : decode cX11_joint 47 = .ok (.iconst 0, 1) := by decide +kernel
theorem dX11_joint_48 : decode cX11_joint 48 = .ok (.iconst 2, 1) := by decide +kernel
theorem dX11_joint_49 : decode cX11_joint 49 = .ok (.invokestatic 160, 3) := by decide +kernel
theorem dX11_joint_52 : decode cX11_joint 52 = .ok (.ifCond .ne 9, 3) := by decide +kernel
theorem dX11_joint_55 : decode cX11_joint 55 = .ok (.aload_n 0, 1) := by decide +kernel
theorem dX11_joint_56 : decode cX11_joint 56 = .ok (.iconst 1, 1) := by decide +kernel
theorem dX11_joint_57 : decode cX11_joint 57 = .ok (.invokevirtual 287, 3) := by decide +kernel
theorem dX11_joint_60 : decode cX11_joint 60 = .ok (.ireturn, 1) := by decide +kernel
theorem dX11_joint_61 : decode cX11_joint 61 = .ok (.iconst (-1), 1) := by decide +kernel
theorem dX11_joint_62 : decode cX11_joint 62 = .ok (.istore 4, 2) := by decide +kernel
theorem dX11_joint_64 : decode cX11_joint 64 = .ok (.iconst 0, 1) := by decide +kernel
theorem dX11_joint_65 : decode cX11_joint 65 = .ok (.istore 5, 2) := by decide +kernel
theorem dX11_joint_67 : decode cX11_joint 67 = .ok (.iconst 0, 1) := by decide +kernel
theorem dX11_joint_68 : decode cX11_joint 68 = .ok (.istore 6, 2) := by decide +kernel
theorem dX11_joint_70 : decode cX11_joint 70 = .ok (.iload 6, 2) := by decide +kernel
theorem dX11_joint_72 : decode cX11_joint 72 = .ok (.aload_n 0, 1) := by decide +kernel
theorem dX11_joint_73 : decode cX11_joint 73 = .ok (.getfield 61, 3) := by decide +kernel
theorem dX11_joint_76 : decode cX11_joint 76 = .ok (.iload_n 1, 1) := by decide +kernel
theorem dX11_joint_77 : decode cX11_joint 77 = .ok (.iaload, 1) := by decide +kernel
theorem dX11_joint_78 : decode cX11_joint 78 = .ok (.if_icmp .ge 116, 3) := by decide +kernel
theorem dX11_joint_81 : decode cX11_joint 81 = .ok (.aload_n 0, 1) := by decide +kernel
theorem dX11_joint_82 : decode cX11_joint 82 = .ok (.iload_n 1, 1) := by decide +kernel
theorem dX11_joint_83 : decode cX11_joint 83 = .ok (.iload 6, 2) := by decide +kernel
theorem dX11_joint_85 : decode cX11_joint 85 = .ok (.invokevirtual 349, 3) := by decide +kernel
theorem dX11_joint_88 : decode cX11_joint 88 = .ok (.istore 7, 2) := by decide +kernel
theorem dX11_joint_90 : decode cX11_joint 90 = .ok (.aload_n 0, 1) := by decide +kernel
theorem dX11_joint_91 : decode cX11_joint 91 = .ok (.iload_n 2, 1) := by decide +kernel
theorem dX11_joint_92 : decode cX11_joint 92 = .ok (.iload 7, 2) := by decide +kernel
theorem dX11_joint_94 : decode cX11_joint 94 = .ok (.invokevirtual 369, 3) := by decide +kernel
theorem dX11_joint_97 : decode cX11_joint 97 = .ok (.istore 8, 2) := by decide +kernel
theorem dX11_joint_99 : decode cX11_joint 99 = .ok (.iload 8, 2) := by decide +kernel
theorem dX11_joint_101 : decode cX11_joint 101 = .ok (.iconst (-1), 1) := by decide +kernel
theorem dX11_joint_102 : decode cX11_joint 102 = .ok (.if_icmp .eq 86, 3) := by decide +kernel
theorem dX11_joint_105 : decode cX11_joint 105 = .ok (.aload_n 0, 1) := by decide +kernel
theorem dX11_joint_106 : decode cX11_joint 106 = .ok (.getfield 70, 3) := by decide +kernel
theorem dX11_joint_109 : decode cX11_joint 109 = .ok (.sipush 2000, 3) := by decide +kernel
theorem dX11_joint_112 : decode cX11_joint 112 = .ok (.iload_n 1, 1) := by decide +kernel
theorem dX11_joint_113 : decode cX11_joint 113 = .ok (.imul, 1) := by decide +kernel
theorem dX11_joint_114 : decode cX11_joint 114 = .ok (.iload 6, 2) := by decide +kernel
theorem dX11_joint_116 : decode cX11_joint 116 = .ok (.iadd, 1) := by decide +kernel
theorem dX11_joint_117 : decode cX11_joint 117 = .ok (.baload, 1) := by decide +kernel
theorem dX11_joint_118 : decode cX11_joint 118 = .ok (.ifCond .ne 70, 3) := by decide +kernel
theorem dX11_joint_121 : decode cX11_joint 121 = .ok (.aload_n 0, 1) := by decide +kernel
theorem dX11_joint_122 : decode cX11_joint 122 = .ok (.getfield 70, 3) := by decide +kernel
theorem dX11_joint_125 : decode cX11_joint 125 = .ok (.sipush 2000, 3) := by decide +kernel
theorem dX11_joint_128 : decode cX11_joint 128 = .ok (.iload_n 2, 1) := by decide +kernel
theorem dX11_joint_129 : decode cX11_joint 129 = .ok (.imul, 1) := by decide +kernel
theorem dX11_joint_130 : decode cX11_joint 130 = .ok (.iload 8, 2) := by decide +kernel
theorem dX11_joint_132 : decode cX11_joint 132 = .ok (.iadd, 1) := by decide +kernel
theorem dX11_joint_133 : decode cX11_joint 133 = .ok (.baload, 1) := by decide +kernel
theorem dX11_joint_134 : decode cX11_joint 134 = .ok (.ifCond .eq 6, 3) := by decide +kernel
theorem dX11_joint_137 : decode cX11_joint 137 = .ok (.goto 51, 3) := by decide +kernel
theorem dX11_joint_140 : decode cX11_joint 140 = .ok (.aload_n 0, 1) := by decide +kernel
theorem dX11_joint_141 : decode cX11_joint 141 = .ok (.iload_n 1, 1) := by decide +kernel
theorem dX11_joint_142 : decode cX11_joint 142 = .ok (.iload_n 2, 1) := by decide +kernel
theorem dX11_joint_143 : decode cX11_joint 143 = .ok (.iload 7, 2) := by decide +kernel
theorem dX11_joint_145 : decode cX11_joint 145 = .ok (.invokevirtual 403, 3) := by decide +kernel
theorem dX11_joint_148 : decode cX11_joint 148 = .ok (.istore 9, 2) := by decide +kernel
theorem dX11_joint_150 : decode cX11_joint 150 = .ok (.iload 4, 2) := by decide +kernel
theorem dX11_joint_152 : decode cX11_joint 152 = .ok (.iconst (-1), 1) := by decide +kernel
theorem dX11_joint_153 : decode cX11_joint 153 = .ok (.if_icmp .eq 27, 3) := by decide +kernel
theorem dX11_joint_156 : decode cX11_joint 156 = .ok (.iload 9, 2) := by decide +kernel
theorem dX11_joint_158 : decode cX11_joint 158 = .ok (.iload 5, 2) := by decide +kernel
theorem dX11_joint_160 : decode cX11_joint 160 = .ok (.if_icmp .gt 28, 3) := by decide +kernel
theorem dX11_joint_163 : decode cX11_joint 163 = .ok (.iload 9, 2) := by decide +kernel
theorem dX11_joint_165 : decode cX11_joint 165 = .ok (.iload 5, 2) := by decide +kernel
theorem dX11_joint_167 : decode cX11_joint 167 = .ok (.if_icmp .ne 13, 3) := by decide +kernel
theorem dX11_joint_170 : decode cX11_joint 170 = .ok (.iload 7, 2) := by decide +kernel
theorem dX11_joint_172 : decode cX11_joint 172 = .ok (.iload 4, 2) := by decide +kernel
theorem dX11_joint_174 : decode cX11_joint 174 = .ok (.if_icmp .le 6, 3) := by decide +kernel
theorem dX11_joint_177 : decode cX11_joint 177 = .ok (.goto 11, 3) := by decide +kernel
theorem dX11_joint_180 : decode cX11_joint 180 = .ok (.iload 7, 2) := by decide +kernel
theorem dX11_joint_182 : decode cX11_joint 182 = .ok (.istore 4, 2) := by decide +kernel
theorem dX11_joint_184 : decode cX11_joint 184 = .ok (.iload 9, 2) := by decide +kernel
theorem dX11_joint_186 : decode cX11_joint 186 = .ok (.istore 5, 2) := by decide +kernel
theorem dX11_joint_188 : decode cX11_joint 188 = .ok (.iinc 6 1, 3) := by decide +kernel
theorem dX11_joint_191 : decode cX11_joint 191 = .ok (.goto (-121), 3) := by decide +kernel
theorem dX11_joint_194 : decode cX11_joint 194 = .ok (.iload 4, 2) := by decide +kernel
theorem dX11_joint_196 : decode cX11_joint 196 = .ok (.iconst (-1), 1) := by decide +kernel
theorem dX11_joint_197 : decode cX11_joint 197 = .ok (.if_icmp .ne 14, 3) := by decide +kernel
theorem dX11_joint_200 : decode cX11_joint 200 = .ok (.iload_n 3, 1) := by decide +kernel
theorem dX11_joint_201 : decode cX11_joint 201 = .ok (.iconst 2, 1) := by decide +kernel
theorem dX11_joint_202 : decode cX11_joint 202 = .ok (.if_icmp .ne 7, 3) := by decide +kernel
theorem dX11_joint_205 : decode cX11_joint 205 = .ok (.iconst 0, 1) := by decide +kernel
theorem dX11_joint_206 : decode cX11_joint 206 = .ok (.goto 4, 3) := by decide +kernel
theorem dX11_joint_209 : decode cX11_joint 209 = .ok (.iconst (-1), 1) := by decide +kernel
theorem dX11_joint_210 : decode cX11_joint 210 = .ok (.ireturn, 1) := by decide +kernel
theorem dX11_joint_211 : decode cX11_joint 211 = .ok (.iload_n 3, 1) := by decide +kernel
theorem dX11_joint_212 : decode cX11_joint 212 = .ok (.ifCond .ne 8, 3) := by decide +kernel
theorem dX11_joint_215 : decode cX11_joint 215 = .ok (.iload 4, 2) := by decide +kernel
theorem dX11_joint_217 : decode cX11_joint 217 = .ok (.goto 51, 3) := by decide +kernel
theorem dX11_joint_220 : decode cX11_joint 220 = .ok (.iload_n 3, 1) := by decide +kernel
theorem dX11_joint_221 : decode cX11_joint 221 = .ok (.iconst 1, 1) := by decide +kernel
theorem dX11_joint_222 : decode cX11_joint 222 = .ok (.if_icmp .ne 8, 3) := by decide +kernel
theorem dX11_joint_225 : decode cX11_joint 225 = .ok (.iload 5, 2) := by decide +kernel
theorem dX11_joint_227 : decode cX11_joint 227 = .ok (.goto 41, 3) := by decide +kernel
theorem dX11_joint_230 : decode cX11_joint 230 = .ok (.aload_n 0, 1) := by decide +kernel
theorem dX11_joint_231 : decode cX11_joint 231 = .ok (.getfield 64, 3) := by decide +kernel
theorem dX11_joint_234 : decode cX11_joint 234 = .ok (.sipush 2000, 3) := by decide +kernel
theorem dX11_joint_237 : decode cX11_joint 237 = .ok (.iload_n 1, 1) := by decide +kernel
theorem dX11_joint_238 : decode cX11_joint 238 = .ok (.imul, 1) := by decide +kernel
theorem dX11_joint_239 : decode cX11_joint 239 = .ok (.aload_n 0, 1) := by decide +kernel
theorem dX11_joint_240 : decode cX11_joint 240 = .ok (.iload_n 1, 1) := by decide +kernel
theorem dX11_joint_241 : decode cX11_joint 241 = .ok (.iconst 0, 1) := by decide +kernel
theorem dX11_joint_242 : decode cX11_joint 242 = .ok (.invokevirtual 378, 3) := by decide +kernel
theorem dX11_joint_245 : decode cX11_joint 245 = .ok (.iadd, 1) := by decide +kernel
theorem dX11_joint_246 : decode cX11_joint 246 = .ok (.iaload, 1) := by decide +kernel
theorem dX11_joint_247 : decode cX11_joint 247 = .ok (.aload_n 0, 1) := by decide +kernel
theorem dX11_joint_248 : decode cX11_joint 248 = .ok (.getfield 64, 3) := by decide +kernel
theorem dX11_joint_251 : decode cX11_joint 251 = .ok (.sipush 2000, 3) := by decide +kernel
theorem dX11_joint_254 : decode cX11_joint 254 = .ok (.iload_n 2, 1) := by decide +kernel
theorem dX11_joint_255 : decode cX11_joint 255 = .ok (.imul, 1) := by decide +kernel
theorem dX11_joint_256 : decode cX11_joint 256 = .ok (.aload_n 0, 1) := by decide +kernel
theorem dX11_joint_257 : decode cX11_joint 257 = .ok (.iload_n 2, 1) := by decide +kernel
theorem dX11_joint_258 : decode cX11_joint 258 = .ok (.iconst 0, 1) := by decide +kernel
theorem dX11_joint_259 : decode cX11_joint 259 = .ok (.invokevirtual 378, 3) := by decide +kernel
theorem dX11_joint_262 : decode cX11_joint 262 = .ok (.iadd, 1) := by decide +kernel
theorem dX11_joint_263 : decode cX11_joint 263 = .ok (.iaload, 1) := by decide +kernel
theorem dX11_joint_264 : decode cX11_joint 264 = .ok (.iadd, 1) := by decide +kernel
theorem dX11_joint_265 : decode cX11_joint 265 = .ok (.iload 5, 2) := by decide +kernel
theorem dX11_joint_267 : decode cX11_joint 267 = .ok (.isub, 1) := by decide +kernel
theorem dX11_joint_268 : decode cX11_joint 268 = .ok (.ireturn, 1) := by decide +kernel
theorem dX11_person_0 : decode cX11_person 0 = .ok (.aload_n 0, 1) := by decide +kernel
theorem dX11_person_1 : decode cX11_person 1 = .ok (.iconst 0, 1) := by decide +kernel
theorem dX11_person_2 : decode cX11_person 2 = .ok (.putfield 154, 3) := by decide +kernel
theorem dX11_person_5 : decode cX11_person 5 = .ok (.aload_n 0, 1) := by decide +kernel
theorem dX11_person_6 : decode cX11_person 6 = .ok (.iload_n 1, 1) := by decide +kernel
theorem dX11_person_7 : decode cX11_person 7 = .ok (.invokevirtual 164, 3) := by decide +kernel
theorem dX11_person_10 : decode cX11_person 10 = .ok (.ifCond .ne 9, 3) := by decide +kernel
theorem dX11_person_13 : decode cX11_person 13 = .ok (.aload_n 0, 1) := by decide +kernel
theorem dX11_person_14 : decode cX11_person 14 = .ok (.iconst 1, 1) := by decide +kernel
theorem dX11_person_15 : decode cX11_person 15 = .ok (.invokevirtual 287, 3) := by decide +kernel
theorem dX11_person_18 : decode cX11_person 18 = .ok (.ireturn, 1) := by decide +kernel
theorem dX11_person_19 : decode cX11_person 19 = .ok (.aload_n 0, 1) := by decide +kernel
theorem dX11_person_20 : decode cX11_person 20 = .ok (.getfield 86, 3) := by decide +kernel
theorem dX11_person_23 : decode cX11_person 23 = .ok (.iload_n 1, 1) := by decide +kernel
theorem dX11_person_24 : decode cX11_person 24 = .ok (.iaload, 1) := by decide +kernel
theorem dX11_person_25 : decode cX11_person 25 = .ok (.bipush 12, 2) := by decide +kernel
theorem dX11_person_27 : decode cX11_person 27 = .ok (.if_icmp .eq 14, 3) := by decide +kernel
theorem dX11_person_30 : decode cX11_person 30 = .ok (.iload_n 2, 1) := by decide +kernel
theorem dX11_person_31 : decode cX11_person 31 = .ok (.iconst 0, 1) := by decide +kernel
theorem dX11_person_32 : decode cX11_person 32 = .ok (.sipush 9999, 3) := by decide +kernel
theorem dX11_person_35 : decode cX11_person 35 = .ok (.invokestatic 160, 3) := by decide +kernel
theorem dX11_person_38 : decode cX11_person 38 = .ok (.ifCond .ne 15, 3) := by decide +kernel
theorem dX11_person_41 : decode cX11_person 41 = .ok (.aload_n 0, 1) := by decide +kernel
theorem dX11_person_42 : decode cX11_person 42 = .ok (.getfield 95, 3) := by decide +kernel
theorem dX11_person_45 : decode cX11_person 45 = .ok (.iconst 3, 1) := by decide +kernel
theorem dX11_person_46 : decode cX11_person 46 = .ok (.dup2, 1) := by decide +kernel
theorem dX11_person_47 : decode cX11_person 47 = .ok (.iaload, 1) := by decide +kernel
theorem dX11_person_48 : decode cX11_person 48 = .ok (.iconst 1, 1) := by decide +kernel
theorem dX11_person_49 : decode cX11_person 49 = .ok (.iadd, 1) := by decide +kernel
theorem dX11_person_50 : decode cX11_person 50 = .ok (.iastore, 1) := by decide +kernel
theorem dX11_person_51 : decode cX11_person 51 = .ok (.iconst (-1), 1) := by decide +kernel
theorem dX11_person_52 : decode cX11_person 52 = .ok (.ireturn, 1) := by decide +kernel
theorem dX11_person_53 : decode cX11_person 53 = .ok (.aload_n 0, 1) := by decide +kernel
theorem dX11_person_54 : decode cX11_person 54 = .ok (.getfield 89, 3) := by decide +kernel
theorem dX11_person_57 : decode cX11_person 57 = .ok (.bipush 12, 2) := by decide +kernel
theorem dX11_person_59 : decode cX11_person 59 = .ok (.iload_n 1, 1) := by decide +kernel
theorem dX11_person_60 : decode cX11_person 60 = .ok (.imul, 1) := by decide +kernel
theorem dX11_person_61 : decode cX11_person 61 = .ok (.aload_n 0, 1) := by decide +kernel
theorem dX11_person_62 : decode cX11_person 62 = .ok (.getfield 86, 3) := by decide +kernel
theorem dX11_person_65 : decode cX11_person 65 = .ok (.iload_n 1, 1) := by decide +kernel
theorem dX11_person_66 : decode cX11_person 66 = .ok (.iaload, 1) := by decide +kernel
theorem dX11_person_67 : decode cX11_person 67 = .ok (.iadd, 1) := by decide +kernel
theorem dX11_person_68 : decode cX11_person 68 = .ok (.iload_n 2, 1) := by decide +kernel
theorem dX11_person_69 : decode cX11_person 69 = .ok (.iastore, 1) := by decide +kernel
theorem dX11_person_70 : decode cX11_person 70 = .ok (.aload_n 0, 1) := by decide +kernel
theorem dX11_person_71 : decode cX11_person 71 = .ok (.getfield 86, 3) := by decide +kernel
theorem dX11_person_74 : decode cX11_person 74 = .ok (.iload_n 1, 1) := by decide +kernel
theorem dX11_person_75 : decode cX11_person 75 = .ok (.dup2, 1) := by decide +kernel
theorem dX11_person_76 : decode cX11_person 76 = .ok (.iaload, 1) := by decide +kernel
theorem dX11_person_77 : decode cX11_person 77 = .ok (.iconst 1, 1) := by decide +kernel
theorem dX11_person_78 : decode cX11_person 78 = .ok (.iadd, 1) := by decide +kernel
theorem dX11_person_79 : decode cX11_person 79 = .ok (.iastore, 1) := by decide +kernel
theorem dX11_person_80 : decode cX11_person 80 = .ok (.aload_n 0, 1) := by decide +kernel
theorem dX11_person_81 : decode cX11_person 81 = .ok (.getfield 86, 3) := by decide +kernel
theorem dX11_person_84 : decode cX11_person 84 = .ok (.iload_n 1, 1) := by decide +kernel
theorem dX11_person_85 : decode cX11_person 85 = .ok (.iaload, 1) := by decide +kernel
theorem dX11_person_86 : decode cX11_person 86 = .ok (.ireturn, 1) := by decide +kernel
theorem dX11_sortPeople_0 : decode cX11_sortPeople 0 = .ok (.iconst 0, 1) := by decide +kernel
theorem dX11_sortPeople_1 : decode cX11_sortPeople 1 = .ok (.istore_n 2, 1) := by decide +kernel
theorem dX11_sortPeople_2 : decode cX11_sortPeople 2 = .ok (.iload_n 2, 1) := by decide +kernel
theorem dX11_sortPeople_3 : decode cX11_sortPeople 3 = .ok (.aload_n 0, 1) := by decide +kernel
theorem dX11_sortPeople_4 : decode cX11_sortPeople 4 = .ok (.getfield 86, 3) := by decide +kernel
theorem dX11_sortPeople_7 : decode cX11_sortPeople 7 = .ok (.iload_n 1, 1) := by decide +kernel
theorem dX11_sortPeople_8 : decode cX11_sortPeople 8 = .ok (.iaload, 1) := by decide +kernel
theorem dX11_sortPeople_9 : decode cX11_sortPeople 9 = .ok (.if_icmp .ge 72, 3) := by decide +kernel
theorem dX11_sortPeople_12 : decode cX11_sortPeople 12 = .ok (.aload_n 0, 1) := by decide +kernel
theorem dX11_sortPeople_13 : decode cX11_sortPeople 13 = .ok (.getfield 89, 3) := by decide +kernel
theorem dX11_sortPeople_16 : decode cX11_sortPeople 16 = .ok (.bipush 12, 2) := by decide +kernel
theorem dX11_sortPeople_18 : decode cX11_sortPeople 18 = .ok (.iload_n 1, 1) := by decide +kernel
theorem dX11_sortPeople_19 : decode cX11_sortPeople 19 = .ok (.imul, 1) := by decide +kernel
theorem dX11_sortPeople_20 : decode cX11_sortPeople 20 = .ok (.iload_n 2, 1) := by decide +kernel
theorem dX11_sortPeople_21 : decode cX11_sortPeople 21 = .ok (.iadd, 1) := by decide +kernel
theorem dX11_sortPeople_22 : decode cX11_sortPeople 22 = .ok (.iaload, 1) := by decide +kernel
theorem dX11_sortPeople_23 : decode cX11_sortPeople 23 = .ok (.istore_n 3, 1) := by decide +kernel
theorem dX11_sortPeople_24 : decode cX11_sortPeople 24 = .ok (.iload_n 2, 1) := by decide +kernel
theorem dX11_sortPeople_25 : decode cX11_sortPeople 25 = .ok (.istore 4, 2) := by decide +kernel
theorem dX11_sortPeople_27 : decode cX11_sortPeople 27 = .ok (.iload 4, 2) := by decide +kernel
theorem dX11_sortPeople_29 : decode cX11_sortPeople 29 = .ok (.ifCond .le 38, 3) := by decide +kernel
theorem dX11_sortPeople_32 : decode cX11_sortPeople 32 = .ok (.aload_n 0, 1) := by decide +kernel
theorem dX11_sortPeople_33 : decode cX11_sortPeople 33 = .ok (.getfield 121, 3) := by decide +kernel
theorem dX11_sortPeople_36 : decode cX11_sortPeople 36 = .ok (.iload 4, 2) := by decide +kernel
theorem dX11_sortPeople_38 : decode cX11_sortPeople 38 = .ok (.iconst 1, 1) := by decide +kernel
theorem dX11_sortPeople_39 : decode cX11_sortPeople 39 = .ok (.isub, 1) := by decide +kernel
theorem dX11_sortPeople_40 : decode cX11_sortPeople 40 = .ok (.iaload, 1) := by decide +kernel
theorem dX11_sortPeople_41 : decode cX11_sortPeople 41 = .ok (.iload_n 3, 1) := by decide +kernel
theorem dX11_sortPeople_42 : decode cX11_sortPeople 42 = .ok (.if_icmp .ge 25, 3) := by decide +kernel
theorem dX11_sortPeople_45 : decode cX11_sortPeople 45 = .ok (.aload_n 0, 1) := by decide +kernel
theorem dX11_sortPeople_46 : decode cX11_sortPeople 46 = .ok (.getfield 121, 3) := by decide +kernel
theorem dX11_sortPeople_49 : decode cX11_sortPeople 49 = .ok (.iload 4, 2) := by decide +kernel
theorem dX11_sortPeople_51 : decode cX11_sortPeople 51 = .ok (.aload_n 0, 1) := by decide +kernel
theorem dX11_sortPeople_52 : decode cX11_sortPeople 52 = .ok (.getfield 121, 3) := by decide +kernel
theorem dX11_sortPeople_55 : decode cX11_sortPeople 55 = .ok (.iload 4, 2) := by decide +kernel
theorem dX11_sortPeople_57 : decode cX11_sortPeople 57 = .ok (.iconst 1, 1) := by decide +kernel
theorem dX11_sortPeople_58 : decode cX11_sortPeople 58 = .ok (.isub, 1) := by decide +kernel
theorem dX11_sortPeople_59 : decode cX11_sortPeople 59 = .ok (.iaload, 1) := by decide +kernel
theorem dX11_sortPeople_60 : decode cX11_sortPeople 60 = .ok (.iastore, 1) := by decide +kernel
theorem dX11_sortPeople_61 : decode cX11_sortPeople 61 = .ok (.iinc 4 (-1), 3) := by decide +kernel
theorem dX11_sortPeople_64 : decode cX11_sortPeople 64 = .ok (.goto (-37), 3) := by decide +kernel
theorem dX11_sortPeople_67 : decode cX11_sortPeople 67 = .ok (.aload_n 0, 1) := by decide +kernel
theorem dX11_sortPeople_68 : decode cX11_sortPeople 68 = .ok (.getfield 121, 3) := by decide +kernel
theorem dX11_sortPeople_71 : decode cX11_sortPeople 71 = .ok (.iload 4, 2) := by decide +kernel
theorem dX11_sortPeople_73 : decode cX11_sortPeople 73 = .ok (.iload_n 3, 1) := by decide +kernel
theorem dX11_sortPeople_74 : decode cX11_sortPeople 74 = .ok (.iastore, 1) := by decide +kernel
theorem dX11_sortPeople_75 : decode cX11_sortPeople 75 = .ok (.iinc 2 1, 3) := by decide +kernel
theorem dX11_sortPeople_78 : decode cX11_sortPeople 78 = .ok (.goto (-76), 3) := by decide +kernel
theorem dX11_sortPeople_81 : decode cX11_sortPeople 81 = .ok (.return_, 1) := by decide +kernel
theorem dX11_costLeft_0 : decode cX11_costLeft 0 = .ok (.aload_n 0, 1) := by decide +kernel
theorem dX11_costLeft_1 : decode cX11_costLeft 1 = .ok (.iload_n 1, 1) := by decide +kernel
theorem dX11_costLeft_2 : decode cX11_costLeft 2 = .ok (.iload_n 2, 1) := by decide +kernel
theorem dX11_costLeft_3 : decode cX11_costLeft 3 = .ok (.invokevirtual 378, 3) := by decide +kernel
theorem dX11_costLeft_6 : decode cX11_costLeft 6 = .ok (.istore_n 3, 1) := by decide +kernel
theorem dX11_costLeft_7 : decode cX11_costLeft 7 = .ok (.iload_n 3, 1) := by decide +kernel
theorem dX11_costLeft_8 : decode cX11_costLeft 8 = .ok (.iconst (-1), 1) := by decide +kernel
theorem dX11_costLeft_9 : decode cX11_costLeft 9 = .ok (.if_icmp .ne 7, 3) := by decide +kernel
theorem dX11_costLeft_12 : decode cX11_costLeft 12 = .ok (.iconst (-1), 1) := by decide +kernel
theorem dX11_costLeft_13 : decode cX11_costLeft 13 = .ok (.goto 15, 3) := by decide +kernel
theorem dX11_costLeft_16 : decode cX11_costLeft 16 = .ok (.aload_n 0, 1) := by decide +kernel
theorem dX11_costLeft_17 : decode cX11_costLeft 17 = .ok (.getfield 64, 3) := by decide +kernel
theorem dX11_costLeft_20 : decode cX11_costLeft 20 = .ok (.sipush 2000, 3) := by decide +kernel
theorem dX11_costLeft_23 : decode cX11_costLeft 23 = .ok (.iload_n 1, 1) := by decide +kernel
theorem dX11_costLeft_24 : decode cX11_costLeft 24 = .ok (.imul, 1) := by decide +kernel
theorem dX11_costLeft_25 : decode cX11_costLeft 25 = .ok (.iload_n 3, 1) := by decide +kernel
theorem dX11_costLeft_26 : decode cX11_costLeft 26 = .ok (.iadd, 1) := by decide +kernel
theorem dX11_costLeft_27 : decode cX11_costLeft 27 = .ok (.iaload, 1) := by decide +kernel
theorem dX11_costLeft_28 : decode cX11_costLeft 28 = .ok (.ireturn, 1) := by decide +kernel
theorem dX11_given_0 : decode cX11_given 0 = .ok (.aload_n 0, 1) := by decide +kernel
theorem dX11_given_1 : decode cX11_given 1 = .ok (.iconst 0, 1) := by decide +kernel
theorem dX11_given_2 : decode cX11_given 2 = .ok (.putfield 154, 3) := by decide +kernel
theorem dX11_given_5 : decode cX11_given 5 = .ok (.aload_n 0, 1) := by decide +kernel
theorem dX11_given_6 : decode cX11_given 6 = .ok (.iload_n 1, 1) := by decide +kernel
theorem dX11_given_7 : decode cX11_given 7 = .ok (.invokevirtual 164, 3) := by decide +kernel
theorem dX11_given_10 : decode cX11_given 10 = .ok (.ifCond .eq 12, 3) := by decide +kernel
theorem dX11_given_13 : decode cX11_given 13 = .ok (.iload_n 2, 1) := by decide +kernel
theorem dX11_given_14 : decode cX11_given 14 = .ok (.iconst 0, 1) := by decide +kernel
theorem dX11_given_15 : decode cX11_given 15 = .ok (.iconst 3, 1) := by decide +kernel
theorem dX11_given_16 : decode cX11_given 16 = .ok (.invokestatic 160, 3) := by decide +kernel
theorem dX11_given_19 : decode cX11_given 19 = .ok (.ifCond .ne 9, 3) := by decide +kernel
theorem dX11_given_22 : decode cX11_given 22 = .ok (.aload_n 0, 1) := by decide +kernel
theorem dX11_given_23 : decode cX11_given 23 = .ok (.iconst 1, 1) := by decide +kernel
theorem dX11_given_24 : decode cX11_given 24 = .ok (.invokevirtual 287, 3) := by decide +kernel
theorem dX11_given_27 : decode cX11_given 27 = .ok (.ireturn, 1) := by decide +kernel
theorem dX11_given_28 : decode cX11_given 28 = .ok (.aload_n 0, 1) := by decide +kernel
theorem dX11_given_29 : decode cX11_given 29 = .ok (.iload_n 1, 1) := by decide +kernel
theorem dX11_given_30 : decode cX11_given 30 = .ok (.invokevirtual 406, 3) := by decide +kernel
theorem dX11_given_33 : decode cX11_given 33 = .ok (.iconst 0, 1) := by decide +kernel
theorem dX11_given_34 : decode cX11_given 34 = .ok (.istore_n 3, 1) := by decide +kernel
theorem dX11_given_35 : decode cX11_given 35 = .ok (.iconst 0, 1) := by decide +kernel
theorem dX11_given_36 : decode cX11_given 36 = .ok (.istore 4, 2) := by decide +kernel
theorem dX11_given_38 : decode cX11_given 38 = .ok (.iload_n 3, 1) := by decide +kernel
theorem dX11_given_39 : decode cX11_given 39 = .ok (.aload_n 0, 1) := by decide +kernel
theorem dX11_given_40 : decode cX11_given 40 = .ok (.getfield 86, 3) := by decide +kernel
theorem dX11_given_43 : decode cX11_given 43 = .ok (.iload_n 1, 1) := by decide +kernel
theorem dX11_given_44 : decode cX11_given 44 = .ok (.iaload, 1) := by decide +kernel
theorem dX11_given_45 : decode cX11_given 45 = .ok (.if_icmp .ge 52, 3) := by decide +kernel
theorem dX11_given_48 : decode cX11_given 48 = .ok (.aload_n 0, 1) := by decide +kernel
theorem dX11_given_49 : decode cX11_given 49 = .ok (.iload_n 1, 1) := by decide +kernel
theorem dX11_given_50 : decode cX11_given 50 = .ok (.iload_n 3, 1) := by decide +kernel
theorem dX11_given_51 : decode cX11_given 51 = .ok (.invokevirtual 409, 3) := by decide +kernel
theorem dX11_given_54 : decode cX11_given 54 = .ok (.iconst (-1), 1) := by decide +kernel
theorem dX11_given_55 : decode cX11_given 55 = .ok (.if_icmp .eq 42, 3) := by decide +kernel
theorem dX11_given_58 : decode cX11_given 58 = .ok (.aload_n 0, 1) := by decide +kernel
theorem dX11_given_59 : decode cX11_given 59 = .ok (.getfield 121, 3) := by decide +kernel
theorem dX11_given_62 : decode cX11_given 62 = .ok (.iload_n 3, 1) := by decide +kernel
theorem dX11_given_63 : decode cX11_given 63 = .ok (.iaload, 1) := by decide +kernel
theorem dX11_given_64 : decode cX11_given 64 = .ok (.aload_n 0, 1) := by decide +kernel
theorem dX11_given_65 : decode cX11_given 65 = .ok (.iload_n 1, 1) := by decide +kernel
theorem dX11_given_66 : decode cX11_given 66 = .ok (.iload_n 3, 1) := by decide +kernel
theorem dX11_given_67 : decode cX11_given 67 = .ok (.invokevirtual 409, 3) := by decide +kernel
theorem dX11_given_70 : decode cX11_given 70 = .ok (.if_icmp .le 27, 3) := by decide +kernel
theorem dX11_given_73 : decode cX11_given 73 = .ok (.iload 4, 2) := by decide +kernel
theorem dX11_given_75 : decode cX11_given 75 = .ok (.aload_n 0, 1) := by decide +kernel
theorem dX11_given_76 : decode cX11_given 76 = .ok (.getfield 121, 3) := by decide +kernel
theorem dX11_given_79 : decode cX11_given 79 = .ok (.iload_n 3, 1) := by decide +kernel
theorem dX11_given_80 : decode cX11_given 80 = .ok (.iaload, 1) := by decide +kernel
theorem dX11_given_81 : decode cX11_given 81 = .ok (.aload_n 0, 1) := by decide +kernel
theorem dX11_given_82 : decode cX11_given 82 = .ok (.iload_n 1, 1) := by decide +kernel
theorem dX11_given_83 : decode cX11_given 83 = .ok (.iload_n 3, 1) := by decide +kernel
theorem dX11_given_84 : decode cX11_given 84 = .ok (.invokevirtual 409, 3) := by decide +kernel
theorem dX11_given_87 : decode cX11_given 87 = .ok (.isub, 1) := by decide +kernel
theorem dX11_given_88 : decode cX11_given 88 = .ok (.iadd, 1) := by decide +kernel
theorem dX11_given_89 : decode cX11_given 89 = .ok (.istore 4, 2) := by decide +kernel
theorem dX11_given_91 : decode cX11_given 91 = .ok (.iinc 3 1, 3) := by decide +kernel
theorem dX11_given_94 : decode cX11_given 94 = .ok (.goto (-56), 3) := by decide +kernel
theorem dX11_given_97 : decode cX11_given 97 = .ok (.iload_n 2, 1) := by decide +kernel
theorem dX11_given_98 : decode cX11_given 98 = .ok (.iconst 2, 1) := by decide +kernel
theorem dX11_given_99 : decode cX11_given 99 = .ok (.if_icmp .ge 14, 3) := by decide +kernel
theorem dX11_given_102 : decode cX11_given 102 = .ok (.iload_n 2, 1) := by decide +kernel
theorem dX11_given_103 : decode cX11_given 103 = .ok (.ifCond .ne 8, 3) := by decide +kernel
theorem dX11_given_106 : decode cX11_given 106 = .ok (.iload 4, 2) := by decide +kernel
theorem dX11_given_108 : decode cX11_given 108 = .ok (.goto 4, 3) := by decide +kernel
theorem dX11_given_111 : decode cX11_given 111 = .ok (.iload_n 3, 1) := by decide +kernel
theorem dX11_given_112 : decode cX11_given 112 = .ok (.ireturn, 1) := by decide +kernel
theorem dX11_given_113 : decode cX11_given 113 = .ok (.iload_n 3, 1) := by decide +kernel
theorem dX11_given_114 : decode cX11_given 114 = .ok (.aload_n 0, 1) := by decide +kernel
theorem dX11_given_115 : decode cX11_given 115 = .ok (.getfield 86, 3) := by decide +kernel
theorem dX11_given_118 : decode cX11_given 118 = .ok (.iload_n 1, 1) := by decide +kernel
theorem dX11_given_119 : decode cX11_given 119 = .ok (.iaload, 1) := by decide +kernel
theorem dX11_given_120 : decode cX11_given 120 = .ok (.if_icmp .ge 12, 3) := by decide +kernel
theorem dX11_given_123 : decode cX11_given 123 = .ok (.aload_n 0, 1) := by decide +kernel
theorem dX11_given_124 : decode cX11_given 124 = .ok (.getfield 121, 3) := by decide +kernel
theorem dX11_given_127 : decode cX11_given 127 = .ok (.iload_n 3, 1) := by decide +kernel
theorem dX11_given_128 : decode cX11_given 128 = .ok (.iaload, 1) := by decide +kernel
theorem dX11_given_129 : decode cX11_given 129 = .ok (.goto 4, 3) := by decide +kernel
theorem dX11_given_132 : decode cX11_given 132 = .ok (.iconst 0, 1) := by decide +kernel
theorem dX11_given_133 : decode cX11_given 133 = .ok (.istore 5, 2) := by decide +kernel
theorem dX11_given_135 : decode cX11_given 135 = .ok (.iload_n 3, 1) := by decide +kernel
theorem dX11_given_136 : decode cX11_given 136 = .ok (.ifCond .le 18, 3) := by decide +kernel
theorem dX11_given_139 : decode cX11_given 139 = .ok (.iload 5, 2) := by decide +kernel
theorem dX11_given_141 : decode cX11_given 141 = .ok (.aload_n 0, 1) := by decide +kernel
theorem dX11_given_142 : decode cX11_given 142 = .ok (.iload_n 1, 1) := by decide +kernel
theorem dX11_given_143 : decode cX11_given 143 = .ok (.iload_n 3, 1) := by decide +kernel
theorem dX11_given_144 : decode cX11_given 144 = .ok (.iconst 1, 1) := by decide +kernel
theorem dX11_given_145 : decode cX11_given 145 = .ok (.isub, 1) := by decide +kernel
theorem dX11_given_146 : decode cX11_given 146 = .ok (.invokevirtual 409, 3) := by decide +kernel
theorem dX11_given_149 : decode cX11_given 149 = .ok (.invokestatic 400, 3) := by decide +kernel
theorem dX11_given_152 : decode cX11_given 152 = .ok (.istore 5, 2) := by decide +kernel
theorem dX11_given_154 : decode cX11_given 154 = .ok (.aload_n 0, 1) := by decide +kernel
theorem dX11_given_155 : decode cX11_given 155 = .ok (.iload_n 1, 1) := by decide +kernel
theorem dX11_given_156 : decode cX11_given 156 = .ok (.iload_n 3, 1) := by decide +kernel
theorem dX11_given_157 : decode cX11_given 157 = .ok (.invokevirtual 409, 3) := by decide +kernel
theorem dX11_given_160 : decode cX11_given 160 = .ok (.iconst (-1), 1) := by decide +kernel
theorem dX11_given_161 : decode cX11_given 161 = .ok (.if_icmp .ne 9, 3) := by decide +kernel
theorem dX11_given_164 : decode cX11_given 164 = .ok (.sipush 9999, 3) := by decide +kernel
theorem dX11_given_167 : decode cX11_given 167 = .ok (.goto 9, 3) := by decide +kernel
theorem dX11_given_170 : decode cX11_given 170 = .ok (.aload_n 0, 1) := by decide +kernel
theorem dX11_given_171 : decode cX11_given 171 = .ok (.iload_n 1, 1) := by decide +kernel
theorem dX11_given_172 : decode cX11_given 172 = .ok (.iload_n 3, 1) := by decide +kernel
theorem dX11_given_173 : decode cX11_given 173 = .ok (.invokevirtual 409, 3) := by decide +kernel
theorem dX11_given_176 : decode cX11_given 176 = .ok (.istore 6, 2) := by decide +kernel
theorem dX11_given_178 : decode cX11_given 178 = .ok (.iload_n 3, 1) := by decide +kernel
theorem dX11_given_179 : decode cX11_given 179 = .ok (.ifCond .le 18, 3) := by decide +kernel
theorem dX11_given_182 : decode cX11_given 182 = .ok (.iload 6, 2) := by decide +kernel
theorem dX11_given_184 : decode cX11_given 184 = .ok (.aload_n 0, 1) := by decide +kernel
theorem dX11_given_185 : decode cX11_given 185 = .ok (.getfield 121, 3) := by decide +kernel
theorem dX11_given_188 : decode cX11_given 188 = .ok (.iload_n 3, 1) := by decide +kernel
theorem dX11_given_189 : decode cX11_given 189 = .ok (.iconst 1, 1) := by decide +kernel
theorem dX11_given_190 : decode cX11_given 190 = .ok (.isub, 1) := by decide +kernel
theorem dX11_given_191 : decode cX11_given 191 = .ok (.iaload, 1) := by decide +kernel
theorem dX11_given_192 : decode cX11_given 192 = .ok (.invokestatic 197, 3) := by decide +kernel
theorem dX11_given_195 : decode cX11_given 195 = .ok (.istore 6, 2) := by decide +kernel
theorem dX11_given_197 : decode cX11_given 197 = .ok (.iload_n 2, 1) := by decide +kernel
theorem dX11_given_198 : decode cX11_given 198 = .ok (.iconst 2, 1) := by decide +kernel
theorem dX11_given_199 : decode cX11_given 199 = .ok (.if_icmp .ne 8, 3) := by decide +kernel
theorem dX11_given_202 : decode cX11_given 202 = .ok (.iload 5, 2) := by decide +kernel
theorem dX11_given_204 : decode cX11_given 204 = .ok (.goto 5, 3) := by decide +kernel
theorem dX11_given_207 : decode cX11_given 207 = .ok (.iload 6, 2) := by decide +kernel
theorem dX11_given_209 : decode cX11_given 209 = .ok (.ireturn, 1) := by decide +kernel
theorem dX11_more_0 : decode cX11_more 0 = .ok (.aload_n 0, 1) := by decide +kernel
theorem dX11_more_1 : decode cX11_more 1 = .ok (.iconst 0, 1) := by decide +kernel
theorem dX11_more_2 : decode cX11_more 2 = .ok (.putfield 154, 3) := by decide +kernel
theorem dX11_more_5 : decode cX11_more 5 = .ok (.aload_n 0, 1) := by decide +kernel
theorem dX11_more_6 : decode cX11_more 6 = .ok (.iload_n 1, 1) := by decide +kernel
theorem dX11_more_7 : decode cX11_more 7 = .ok (.invokevirtual 164, 3) := by decide +kernel
theorem dX11_more_10 : decode cX11_more 10 = .ok (.ifCond .eq 21, 3) := by decide +kernel
theorem dX11_more_13 : decode cX11_more 13 = .ok (.aload_n 0, 1) := by decide +kernel
theorem dX11_more_14 : decode cX11_more 14 = .ok (.getfield 21, 3) := by decide +kernel
theorem dX11_more_17 : decode cX11_more 17 = .ok (.iload_n 1, 1) := by decide +kernel
theorem dX11_more_18 : decode cX11_more 18 = .ok (.iaload, 1) := by decide +kernel
theorem dX11_more_19 : decode cX11_more 19 = .ok (.ifCond .ne 12, 3) := by decide +kernel
theorem dX11_more_22 : decode cX11_more 22 = .ok (.iload_n 2, 1) := by decide +kernel
theorem dX11_more_23 : decode cX11_more 23 = .ok (.iconst 0, 1) := by decide +kernel
theorem dX11_more_24 : decode cX11_more 24 = .ok (.iconst 2, 1) := by decide +kernel
theorem dX11_more_25 : decode cX11_more 25 = .ok (.invokestatic 160, 3) := by decide +kernel
theorem dX11_more_28 : decode cX11_more 28 = .ok (.ifCond .ne 9, 3) := by decide +kernel
theorem dX11_more_31 : decode cX11_more 31 = .ok (.aload_n 0, 1) := by decide +kernel
theorem dX11_more_32 : decode cX11_more 32 = .ok (.iconst 1, 1) := by decide +kernel
theorem dX11_more_33 : decode cX11_more 33 = .ok (.invokevirtual 287, 3) := by decide +kernel
theorem dX11_more_36 : decode cX11_more 36 = .ok (.ireturn, 1) := by decide +kernel
theorem dX11_more_37 : decode cX11_more 37 = .ok (.iconst 0, 1) := by decide +kernel
theorem dX11_more_38 : decode cX11_more 38 = .ok (.istore_n 3, 1) := by decide +kernel
theorem dX11_more_39 : decode cX11_more 39 = .ok (.iload_n 3, 1) := by decide +kernel
theorem dX11_more_40 : decode cX11_more 40 = .ok (.bipush 12, 2) := by decide +kernel
theorem dX11_more_42 : decode cX11_more 42 = .ok (.if_icmp .ge 47, 3) := by decide +kernel
theorem dX11_more_45 : decode cX11_more 45 = .ok (.aload_n 0, 1) := by decide +kernel
theorem dX11_more_46 : decode cX11_more 46 = .ok (.getfield 124, 3) := by decide +kernel
theorem dX11_more_49 : decode cX11_more 49 = .ok (.iload_n 3, 1) := by decide +kernel
theorem dX11_more_50 : decode cX11_more 50 = .ok (.iload_n 3, 1) := by decide +kernel
theorem dX11_more_51 : decode cX11_more 51 = .ok (.ifCond .ne 7, 3) := by decide +kernel
theorem dX11_more_54 : decode cX11_more 54 = .ok (.iconst 1, 1) := by decide +kernel
theorem dX11_more_55 : decode cX11_more 55 = .ok (.goto 4, 3) := by decide +kernel
theorem dX11_more_58 : decode cX11_more 58 = .ok (.iconst 0, 1) := by decide +kernel
theorem dX11_more_59 : decode cX11_more 59 = .ok (.iastore, 1) := by decide +kernel
theorem dX11_more_60 : decode cX11_more 60 = .ok (.aload_n 0, 1) := by decide +kernel
theorem dX11_more_61 : decode cX11_more 61 = .ok (.getfield 127, 3) := by decide +kernel
theorem dX11_more_64 : decode cX11_more 64 = .ok (.iload_n 3, 1) := by decide +kernel
theorem dX11_more_65 : decode cX11_more 65 = .ok (.iload_n 3, 1) := by decide +kernel
theorem dX11_more_66 : decode cX11_more 66 = .ok (.aload_n 0, 1) := by decide +kernel
theorem dX11_more_67 : decode cX11_more 67 = .ok (.getfield 25, 3) := by decide +kernel
theorem dX11_more_70 : decode cX11_more 70 = .ok (.iload_n 1, 1) := by decide +kernel
theorem dX11_more_71 : decode cX11_more 71 = .ok (.iaload, 1) := by decide +kernel
theorem dX11_more_72 : decode cX11_more 72 = .ok (.iconst 1, 1) := by decide +kernel
theorem dX11_more_73 : decode cX11_more 73 = .ok (.isub, 1) := by decide +kernel
theorem dX11_more_74 : decode cX11_more 74 = .ok (.if_icmp .ne 7, 3) := by decide +kernel
theorem dX11_more_77 : decode cX11_more 77 = .ok (.iconst 1, 1) := by decide +kernel
theorem dX11_more_78 : decode cX11_more 78 = .ok (.goto 4, 3) := by decide +kernel
theorem dX11_more_81 : decode cX11_more 81 = .ok (.iconst 0, 1) := by decide +kernel
theorem dX11_more_82 : decode cX11_more 82 = .ok (.iastore, 1) := by decide +kernel
theorem dX11_more_83 : decode cX11_more 83 = .ok (.iinc 3 1, 3) := by decide +kernel
theorem dX11_more_86 : decode cX11_more 86 = .ok (.goto (-47), 3) := by decide +kernel
theorem dX11_more_89 : decode cX11_more 89 = .ok (.iconst 1, 1) := by decide +kernel
theorem dX11_more_90 : decode cX11_more 90 = .ok (.istore_n 3, 1) := by decide +kernel
theorem dX11_more_91 : decode cX11_more 91 = .ok (.iload_n 3, 1) := by decide +kernel
theorem dX11_more_92 : decode cX11_more 92 = .ok (.aload_n 0, 1) := by decide +kernel
theorem dX11_more_93 : decode cX11_more 93 = .ok (.getfield 25, 3) := by decide +kernel
theorem dX11_more_96 : decode cX11_more 96 = .ok (.iload_n 1, 1) := by decide +kernel
theorem dX11_more_97 : decode cX11_more 97 = .ok (.iaload, 1) := by decide +kernel
theorem dX11_more_98 : decode cX11_more 98 = .ok (.if_icmp .ge 71, 3) := by decide +kernel
theorem dX11_more_101 : decode cX11_more 101 = .ok (.iconst 0, 1) := by decide +kernel
theorem dX11_more_102 : decode cX11_more 102 = .ok (.istore 4, 2) := by decide +kernel
theorem dX11_more_104 : decode cX11_more 104 = .ok (.iload 4, 2) := by decide +kernel
theorem dX11_more_106 : decode cX11_more 106 = .ok (.aload_n 0, 1) := by decide +kernel
theorem dX11_more_107 : decode cX11_more 107 = .ok (.getfield 34, 3) := by decide +kernel
theorem dX11_more_110 : decode cX11_more 110 = .ok (.iload_n 1, 1) := by decide +kernel
theorem dX11_more_111 : decode cX11_more 111 = .ok (.iaload, 1) := by decide +kernel
theorem dX11_more_112 : decode cX11_more 112 = .ok (.if_icmp .ge 51, 3) := by decide +kernel
theorem dX11_more_115 : decode cX11_more 115 = .ok (.aload_n 0, 1) := by decide +kernel
theorem dX11_more_116 : decode cX11_more 116 = .ok (.getfield 46, 3) := by decide +kernel
theorem dX11_more_119 : decode cX11_more 119 = .ok (.bipush 20, 2) := by decide +kernel
theorem dX11_more_121 : decode cX11_more 121 = .ok (.iload_n 1, 1) := by decide +kernel
theorem dX11_more_122 : decode cX11_more 122 = .ok (.imul, 1) := by decide +kernel
theorem dX11_more_123 : decode cX11_more 123 = .ok (.iload 4, 2) := by decide +kernel
theorem dX11_more_125 : decode cX11_more 125 = .ok (.iadd, 1) := by decide +kernel
theorem dX11_more_126 : decode cX11_more 126 = .ok (.iaload, 1) := by decide +kernel
theorem dX11_more_127 : decode cX11_more 127 = .ok (.iload_n 3, 1) := by decide +kernel
theorem dX11_more_128 : decode cX11_more 128 = .ok (.if_icmp .ne 29, 3) := by decide +kernel
theorem dX11_more_131 : decode cX11_more 131 = .ok (.aload_n 0, 1) := by decide +kernel
theorem dX11_more_132 : decode cX11_more 132 = .ok (.getfield 124, 3) := by decide +kernel
theorem dX11_more_135 : decode cX11_more 135 = .ok (.iload_n 3, 1) := by decide +kernel
theorem dX11_more_136 : decode cX11_more 136 = .ok (.dup2, 1) := by decide +kernel
theorem dX11_more_137 : decode cX11_more 137 = .ok (.iaload, 1) := by decide +kernel
theorem dX11_more_138 : decode cX11_more 138 = .ok (.aload_n 0, 1) := by decide +kernel
theorem dX11_more_139 : decode cX11_more 139 = .ok (.getfield 124, 3) := by decide +kernel
theorem dX11_more_142 : decode cX11_more 142 = .ok (.aload_n 0, 1) := by decide +kernel
theorem dX11_more_143 : decode cX11_more 143 = .ok (.getfield 43, 3) := by decide +kernel
theorem dX11_more_146 : decode cX11_more 146 = .ok (.bipush 20, 2) := by decide +kernel
theorem dX11_more_148 : decode cX11_more 148 = .ok (.iload_n 1, 1) := by decide +kernel
theorem dX11_more_149 : decode cX11_more 149 = .ok (.imul, 1) := by decide +kernel
theorem dX11_more_150 : decode cX11_more 150 = .ok (.iload 4, 2) := by decide +kernel
theorem dX11_more_152 : decode cX11_more 152 = .ok (.iadd, 1) := by decide +kernel
theorem dX11_more_153 : decode cX11_more 153 = .ok (.iaload, 1) := by decide +kernel
theorem dX11_more_154 : decode cX11_more 154 = .ok (.iaload, 1) := by decide +kernel
theorem dX11_more_155 : decode cX11_more 155 = .ok (.iadd, 1) := by decide +kernel
theorem dX11_more_156 : decode cX11_more 156 = .ok (.iastore, 1) := by decide +kernel
theorem dX11_more_157 : decode cX11_more 157 = .ok (.iinc 4 1, 3) := by decide +kernel
theorem dX11_more_160 : decode cX11_more 160 = .ok (.goto (-56), 3) := by decide +kernel
theorem dX11_more_163 : decode cX11_more 163 = .ok (.iinc 3 1, 3) := by decide +kernel
theorem dX11_more_166 : decode cX11_more 166 = .ok (.goto (-75), 3) := by decide +kernel
theorem dX11_more_169 : decode cX11_more 169 = .ok (.aload_n 0, 1) := by decide +kernel
theorem dX11_more_170 : decode cX11_more 170 = .ok (.getfield 25, 3) := by decide +kernel
theorem dX11_more_173 : decode cX11_more 173 = .ok (.iload_n 1, 1) := by decide +kernel
theorem dX11_more_174 : decode cX11_more 174 = .ok (.iaload, 1) := by decide +kernel
theorem dX11_more_175 : decode cX11_more 175 = .ok (.iconst 2, 1) := by decide +kernel
theorem dX11_more_176 : decode cX11_more 176 = .ok (.isub, 1) := by decide +kernel
theorem dX11_more_177 : decode cX11_more 177 = .ok (.istore_n 3, 1) := by decide +kernel
theorem dX11_more_178 : decode cX11_more 178 = .ok (.iload_n 3, 1) := by decide +kernel
theorem dX11_more_179 : decode cX11_more 179 = .ok (.ifCond .lt 71, 3) := by decide +kernel
theorem dX11_more_182 : decode cX11_more 182 = .ok (.iconst 0, 1) := by decide +kernel
theorem dX11_more_183 : decode cX11_more 183 = .ok (.istore 4, 2) := by decide +kernel
theorem dX11_more_185 : decode cX11_more 185 = .ok (.iload 4, 2) := by decide +kernel
theorem dX11_more_187 : decode cX11_more 187 = .ok (.aload_n 0, 1) := by decide +kernel
theorem dX11_more_188 : decode cX11_more 188 = .ok (.getfield 34, 3) := by decide +kernel
theorem dX11_more_191 : decode cX11_more 191 = .ok (.iload_n 1, 1) := by decide +kernel
theorem dX11_more_192 : decode cX11_more 192 = .ok (.iaload, 1) := by decide +kernel
theorem dX11_more_193 : decode cX11_more 193 = .ok (.if_icmp .ge 51, 3) := by decide +kernel
theorem dX11_more_196 : decode cX11_more 196 = .ok (.aload_n 0, 1) := by decide +kernel
theorem dX11_more_197 : decode cX11_more 197 = .ok (.getfield 43, 3) := by decide +kernel
theorem dX11_more_200 : decode cX11_more 200 = .ok (.bipush 20, 2) := by decide +kernel
theorem dX11_more_202 : decode cX11_more 202 = .ok (.iload_n 1, 1) := by decide +kernel
theorem dX11_more_203 : decode cX11_more 203 = .ok (.imul, 1) := by decide +kernel
theorem dX11_more_204 : decode cX11_more 204 = .ok (.iload 4, 2) := by decide +kernel
theorem dX11_more_206 : decode cX11_more 206 = .ok (.iadd, 1) := by decide +kernel
theorem dX11_more_207 : decode cX11_more 207 = .ok (.iaload, 1) := by decide +kernel
theorem dX11_more_208 : decode cX11_more 208 = .ok (.iload_n 3, 1) := by decide +kernel
theorem dX11_more_209 : decode cX11_more 209 = .ok (.if_icmp .ne 29, 3) := by decide +kernel
theorem dX11_more_212 : decode cX11_more 212 = .ok (.aload_n 0, 1) := by decide +kernel
theorem dX11_more_213 : decode cX11_more 213 = .ok (.getfield 127, 3) := by decide +kernel
theorem dX11_more_216 : decode cX11_more 216 = .ok (.iload_n 3, 1) := by decide +kernel
theorem dX11_more_217 : decode cX11_more 217 = .ok (.dup2, 1) := by decide +kernel
theorem dX11_more_218 : decode cX11_more 218 = .ok (.iaload, 1) := by decide +kernel
theorem dX11_more_219 : decode cX11_more 219 = .ok (.aload_n 0, 1) := by decide +kernel
theorem dX11_more_220 : decode cX11_more 220 = .ok (.getfield 127, 3) := by decide +kernel
theorem dX11_more_223 : decode cX11_more 223 = .ok (.aload_n 0, 1) := by decide +kernel
theorem dX11_more_224 : decode cX11_more 224 = .ok (.getfield 46, 3) := by decide +kernel
theorem dX11_more_227 : decode cX11_more 227 = .ok (.bipush 20, 2) := by decide +kernel
theorem dX11_more_229 : decode cX11_more 229 = .ok (.iload_n 1, 1) := by decide +kernel
theorem dX11_more_230 : decode cX11_more 230 = .ok (.imul, 1) := by decide +kernel
theorem dX11_more_231 : decode cX11_more 231 = .ok (.iload 4, 2) := by decide +kernel
theorem dX11_more_233 : decode cX11_more 233 = .ok (.iadd, 1) := by decide +kernel
theorem dX11_more_234 : decode cX11_more 234 = .ok (.iaload, 1) := by decide +kernel
theorem dX11_more_235 : decode cX11_more 235 = .ok (.iaload, 1) := by decide +kernel
theorem dX11_more_236 : decode cX11_more 236 = .ok (.iadd, 1) := by decide +kernel
theorem dX11_more_237 : decode cX11_more 237 = .ok (.iastore, 1) := by decide +kernel
theorem dX11_more_238 : decode cX11_more 238 = .ok (.iinc 4 1, 3) := by decide +kernel
theorem dX11_more_241 : decode cX11_more 241 = .ok (.goto (-56), 3) := by decide +kernel
theorem dX11_more_244 : decode cX11_more 244 = .ok (.iinc 3 (-1), 3) := by decide +kernel
theorem dX11_more_247 : decode cX11_more 247 = .ok (.goto (-69), 3) := by decide +kernel
theorem dX11_more_250 : decode cX11_more 250 = .ok (.iconst 0, 1) := by decide +kernel
theorem dX11_more_251 : decode cX11_more 251 = .ok (.istore_n 3, 1) := by decide +kernel
theorem dX11_more_252 : decode cX11_more 252 = .ok (.iconst 1, 1) := by decide +kernel
theorem dX11_more_253 : decode cX11_more 253 = .ok (.istore 4, 2) := by decide +kernel
theorem dX11_more_255 : decode cX11_more 255 = .ok (.iconst 0, 1) := by decide +kernel
theorem dX11_more_256 : decode cX11_more 256 = .ok (.istore 5, 2) := by decide +kernel
theorem dX11_more_258 : decode cX11_more 258 = .ok (.iload 5, 2) := by decide +kernel
theorem dX11_more_260 : decode cX11_more 260 = .ok (.aload_n 0, 1) := by decide +kernel
theorem dX11_more_261 : decode cX11_more 261 = .ok (.getfield 25, 3) := by decide +kernel
theorem dX11_more_264 : decode cX11_more 264 = .ok (.iload_n 1, 1) := by decide +kernel
theorem dX11_more_265 : decode cX11_more 265 = .ok (.iaload, 1) := by decide +kernel
theorem dX11_more_266 : decode cX11_more 266 = .ok (.if_icmp .ge 74, 3) := by decide +kernel
theorem dX11_more_269 : decode cX11_more 269 = .ok (.iload 5, 2) := by decide +kernel
theorem dX11_more_271 : decode cX11_more 271 = .ok (.iconst 1, 1) := by decide +kernel
theorem dX11_more_272 : decode cX11_more 272 = .ok (.iadd, 1) := by decide +kernel
theorem dX11_more_273 : decode cX11_more 273 = .ok (.istore 6, 2) := by decide +kernel
theorem dX11_more_275 : decode cX11_more 275 = .ok (.iload 6, 2) := by decide +kernel
theorem dX11_more_277 : decode cX11_more 277 = .ok (.aload_n 0, 1) := by decide +kernel
theorem dX11_more_278 : decode cX11_more 278 = .ok (.getfield 25, 3) := by decide +kernel
theorem dX11_more_281 : decode cX11_more 281 = .ok (.iload_n 1, 1) := by decide +kernel
theorem dX11_more_282 : decode cX11_more 282 = .ok (.iaload, 1) := by decide +kernel
theorem dX11_more_283 : decode cX11_more 283 = .ok (.if_icmp .ge 51, 3) := by decide +kernel
theorem dX11_more_286 : decode cX11_more 286 = .ok (.aload_n 0, 1) := by decide +kernel
theorem dX11_more_287 : decode cX11_more 287 = .ok (.getfield 124, 3) := by decide +kernel
theorem dX11_more_290 : decode cX11_more 290 = .ok (.iload 5, 2) := by decide +kernel
theorem dX11_more_292 : decode cX11_more 292 = .ok (.iaload, 1) := by decide +kernel
theorem dX11_more_293 : decode cX11_more 293 = .ok (.aload_n 0, 1) := by decide +kernel
theorem dX11_more_294 : decode cX11_more 294 = .ok (.getfield 127, 3) := by decide +kernel
theorem dX11_more_297 : decode cX11_more 297 = .ok (.iload 6, 2) := by decide +kernel
theorem dX11_more_299 : decode cX11_more 299 = .ok (.iaload, 1) := by decide +kernel
theorem dX11_more_300 : decode cX11_more 300 = .ok (.imul, 1) := by decide +kernel
theorem dX11_more_301 : decode cX11_more 301 = .ok (.aload_n 0, 1) := by decide +kernel
theorem dX11_more_302 : decode cX11_more 302 = .ok (.getfield 124, 3) := by decide +kernel
theorem dX11_more_305 : decode cX11_more 305 = .ok (.iload_n 3, 1) := by decide +kernel
theorem dX11_more_306 : decode cX11_more 306 = .ok (.iaload, 1) := by decide +kernel
theorem dX11_more_307 : decode cX11_more 307 = .ok (.aload_n 0, 1) := by decide +kernel
theorem dX11_more_308 : decode cX11_more 308 = .ok (.getfield 127, 3) := by decide +kernel
theorem dX11_more_311 : decode cX11_more 311 = .ok (.iload 4, 2) := by decide +kernel
theorem dX11_more_313 : decode cX11_more 313 = .ok (.iaload, 1) := by decide +kernel
theorem dX11_more_314 : decode cX11_more 314 = .ok (.imul, 1) := by decide +kernel
theorem dX11_more_315 : decode cX11_more 315 = .ok (.if_icmp .gt 6, 3) := by decide +kernel
theorem dX11_more_318 : decode cX11_more 318 = .ok (.goto 10, 3) := by decide +kernel
theorem dX11_more_321 : decode cX11_more 321 = .ok (.iload 5, 2) := by decide +kernel
theorem dX11_more_323 : decode cX11_more 323 = .ok (.istore_n 3, 1) := by decide +kernel
theorem dX11_more_324 : decode cX11_more 324 = .ok (.iload 6, 2) := by decide +kernel
theorem dX11_more_326 : decode cX11_more 326 = .ok (.istore 4, 2) := by decide +kernel
theorem dX11_more_328 : decode cX11_more 328 = .ok (.iinc 6 1, 3) := by decide +kernel
theorem dX11_more_331 : decode cX11_more 331 = .ok (.goto (-56), 3) := by decide +kernel
theorem dX11_more_334 : decode cX11_more 334 = .ok (.iinc 5 1, 3) := by decide +kernel
theorem dX11_more_337 : decode cX11_more 337 = .ok (.goto (-79), 3) := by decide +kernel
theorem dX11_more_340 : decode cX11_more 340 = .ok (.iload_n 2, 1) := by decide +kernel
theorem dX11_more_341 : decode cX11_more 341 = .ok (.ifCond .ne 7, 3) := by decide +kernel
theorem dX11_more_344 : decode cX11_more 344 = .ok (.iload_n 3, 1) := by decide +kernel
theorem dX11_more_345 : decode cX11_more 345 = .ok (.goto 34, 3) := by decide +kernel
theorem dX11_more_348 : decode cX11_more 348 = .ok (.iload_n 2, 1) := by decide +kernel
theorem dX11_more_349 : decode cX11_more 349 = .ok (.iconst 1, 1) := by decide +kernel
theorem dX11_more_350 : decode cX11_more 350 = .ok (.if_icmp .ne 8, 3) := by decide +kernel
theorem dX11_more_353 : decode cX11_more 353 = .ok (.iload 4, 2) := by decide +kernel
theorem dX11_more_355 : decode cX11_more 355 = .ok (.goto 24, 3) := by decide +kernel
theorem dX11_more_358 : decode cX11_more 358 = .ok (.aload_n 0, 1) := by decide +kernel
theorem dX11_more_359 : decode cX11_more 359 = .ok (.getfield 61, 3) := by decide +kernel
theorem dX11_more_362 : decode cX11_more 362 = .ok (.iload_n 1, 1) := by decide +kernel
theorem dX11_more_363 : decode cX11_more 363 = .ok (.iaload, 1) := by decide +kernel
theorem dX11_more_364 : decode cX11_more 364 = .ok (.aload_n 0, 1) := by decide +kernel
theorem dX11_more_365 : decode cX11_more 365 = .ok (.getfield 124, 3) := by decide +kernel
theorem dX11_more_368 : decode cX11_more 368 = .ok (.iload_n 3, 1) := by decide +kernel
theorem dX11_more_369 : decode cX11_more 369 = .ok (.iaload, 1) := by decide +kernel
theorem dX11_more_370 : decode cX11_more 370 = .ok (.aload_n 0, 1) := by decide +kernel
theorem dX11_more_371 : decode cX11_more 371 = .ok (.getfield 127, 3) := by decide +kernel
theorem dX11_more_374 : decode cX11_more 374 = .ok (.iload 4, 2) := by decide +kernel
theorem dX11_more_376 : decode cX11_more 376 = .ok (.iaload, 1) := by decide +kernel
theorem dX11_more_377 : decode cX11_more 377 = .ok (.imul, 1) := by decide +kernel
theorem dX11_more_378 : decode cX11_more 378 = .ok (.iadd, 1) := by decide +kernel
theorem dX11_more_379 : decode cX11_more 379 = .ok (.ireturn, 1) := by decide +kernel
theorem dX11_court_0 : decode cX11_court 0 = .ok (.aload_n 0, 1) := by decide +kernel
theorem dX11_court_1 : decode cX11_court 1 = .ok (.iconst 0, 1) := by decide +kernel
theorem dX11_court_2 : decode cX11_court 2 = .ok (.putfield 154, 3) := by decide +kernel
theorem dX11_court_5 : decode cX11_court 5 = .ok (.aload_n 0, 1) := by decide +kernel
theorem dX11_court_6 : decode cX11_court 6 = .ok (.iload_n 1, 1) := by decide +kernel
theorem dX11_court_7 : decode cX11_court 7 = .ok (.invokevirtual 164, 3) := by decide +kernel
theorem dX11_court_10 : decode cX11_court 10 = .ok (.ifCond .ne 9, 3) := by decide +kernel
theorem dX11_court_13 : decode cX11_court 13 = .ok (.aload_n 0, 1) := by decide +kernel
theorem dX11_court_14 : decode cX11_court 14 = .ok (.iconst 1, 1) := by decide +kernel
theorem dX11_court_15 : decode cX11_court 15 = .ok (.invokevirtual 287, 3) := by decide +kernel
theorem dX11_court_18 : decode cX11_court 18 = .ok (.ireturn, 1) := by decide +kernel
theorem dX11_court_19 : decode cX11_court 19 = .ok (.iload_n 2, 1) := by decide +kernel
theorem dX11_court_20 : decode cX11_court 20 = .ok (.iconst 0, 1) := by decide +kernel
theorem dX11_court_21 : decode cX11_court 21 = .ok (.iconst 2, 1) := by decide +kernel
theorem dX11_court_22 : decode cX11_court 22 = .ok (.invokestatic 160, 3) := by decide +kernel
theorem dX11_court_25 : decode cX11_court 25 = .ok (.ifCond .eq 18, 3) := by decide +kernel
theorem dX11_court_28 : decode cX11_court 28 = .ok (.iload_n 2, 1) := by decide +kernel
theorem dX11_court_29 : decode cX11_court 29 = .ok (.iconst 2, 1) := by decide +kernel
theorem dX11_court_30 : decode cX11_court 30 = .ok (.if_icmp .ne 19, 3) := by decide +kernel
theorem dX11_court_33 : decode cX11_court 33 = .ok (.iload_n 3, 1) := by decide +kernel
theorem dX11_court_34 : decode cX11_court 34 = .ok (.iconst 1, 1) := by decide +kernel
theorem dX11_court_35 : decode cX11_court 35 = .ok (.bipush 9, 2) := by decide +kernel
theorem dX11_court_37 : decode cX11_court 37 = .ok (.invokestatic 160, 3) := by decide +kernel
theorem dX11_court_40 : decode cX11_court 40 = .ok (.ifCond .ne 9, 3) := by decide +kernel
theorem dX11_court_43 : decode cX11_court 43 = .ok (.aload_n 0, 1) := by decide +kernel
theorem dX11_court_44 : decode cX11_court 44 = .ok (.iconst 2, 1) := by decide +kernel
theorem dX11_court_45 : decode cX11_court 45 = .ok (.invokevirtual 287, 3) := by decide +kernel
theorem dX11_court_48 : decode cX11_court 48 = .ok (.ireturn, 1) := by decide +kernel
theorem dX11_court_49 : decode cX11_court 49 = .ok (.aload_n 0, 1) := by decide +kernel
theorem dX11_court_50 : decode cX11_court 50 = .ok (.iload_n 1, 1) := by decide +kernel
theorem dX11_court_51 : decode cX11_court 51 = .ok (.invokevirtual 342, 3) := by decide +kernel
theorem dX11_court_54 : decode cX11_court 54 = .ok (.istore 4, 2) := by decide +kernel
theorem dX11_court_56 : decode cX11_court 56 = .ok (.iconst 0, 1) := by decide +kernel
theorem dX11_court_57 : decode cX11_court 57 = .ok (.istore 5, 2) := by decide +kernel
theorem dX11_court_59 : decode cX11_court 59 = .ok (.iconst 0, 1) := by decide +kernel
theorem dX11_court_60 : decode cX11_court 60 = .ok (.istore 6, 2) := by decide +kernel
theorem dX11_court_62 : decode cX11_court 62 = .ok (.iload 6, 2) := by decide +kernel
theorem dX11_court_64 : decode cX11_court 64 = .ok (.aload_n 0, 1) := by decide +kernel
theorem dX11_court_65 : decode cX11_court 65 = .ok (.getfield 61, 3) := by decide +kernel
theorem dX11_court_68 : decode cX11_court 68 = .ok (.iload_n 1, 1) := by decide +kernel
theorem dX11_court_69 : decode cX11_court 69 = .ok (.iaload, 1) := by decide +kernel
theorem dX11_court_70 : decode cX11_court 70 = .ok (.if_icmp .ge 97, 3) := by decide +kernel
theorem dX11_court_73 : decode cX11_court 73 = .ok (.iconst 0, 1) := by decide +kernel
theorem dX11_court_74 : decode cX11_court 74 = .ok (.istore 7, 2) := by decide +kernel
theorem dX11_court_76 : decode cX11_court 76 = .ok (.iconst 0, 1) := by decide +kernel
theorem dX11_court_77 : decode cX11_court 77 = .ok (.istore 8, 2) := by decide +kernel
theorem dX11_court_79 : decode cX11_court 79 = .ok (.iload 8, 2) := by decide +kernel
theorem dX11_court_81 : decode cX11_court 81 = .ok (.aload_n 0, 1) := by decide +kernel
theorem dX11_court_82 : decode cX11_court 82 = .ok (.getfield 293, 3) := by decide +kernel
theorem dX11_court_85 : decode cX11_court 85 = .ok (.if_icmp .ge 61, 3) := by decide +kernel
theorem dX11_court_88 : decode cX11_court 88 = .ok (.iload 7, 2) := by decide +kernel
theorem dX11_court_90 : decode cX11_court 90 = .ok (.ifCond .ne 56, 3) := by decide +kernel
theorem dX11_court_93 : decode cX11_court 93 = .ok (.aload_n 0, 1) := by decide +kernel
theorem dX11_court_94 : decode cX11_court 94 = .ok (.getfield 74, 3) := by decide +kernel
theorem dX11_court_97 : decode cX11_court 97 = .ok (.iload 8, 2) := by decide +kernel
theorem dX11_court_99 : decode cX11_court 99 = .ok (.iaload, 1) := by decide +kernel
theorem dX11_court_100 : decode cX11_court 100 = .ok (.iload_n 1, 1) := by decide +kernel
theorem dX11_court_101 : decode cX11_court 101 = .ok (.if_icmp .ne 36, 3) := by decide +kernel
theorem dX11_court_104 : decode cX11_court 104 = .ok (.aload_n 0, 1) := by decide +kernel
theorem dX11_court_105 : decode cX11_court 105 = .ok (.iload_n 1, 1) := by decide +kernel
theorem dX11_court_106 : decode cX11_court 106 = .ok (.iload 6, 2) := by decide +kernel
theorem dX11_court_108 : decode cX11_court 108 = .ok (.invokevirtual 349, 3) := by decide +kernel
theorem dX11_court_111 : decode cX11_court 111 = .ok (.aload_n 0, 1) := by decide +kernel
theorem dX11_court_112 : decode cX11_court 112 = .ok (.iload_n 1, 1) := by decide +kernel
theorem dX11_court_113 : decode cX11_court 113 = .ok (.aload_n 0, 1) := by decide +kernel
theorem dX11_court_114 : decode cX11_court 114 = .ok (.getfield 77, 3) := by decide +kernel
theorem dX11_court_117 : decode cX11_court 117 = .ok (.iload 8, 2) := by decide +kernel
theorem dX11_court_119 : decode cX11_court 119 = .ok (.iaload, 1) := by decide +kernel
theorem dX11_court_120 : decode cX11_court 120 = .ok (.invokevirtual 349, 3) := by decide +kernel
theorem dX11_court_123 : decode cX11_court 123 = .ok (.iload_n 2, 1) := by decide +kernel
theorem dX11_court_124 : decode cX11_court 124 = .ok (.iload 4, 2) := by decide +kernel
theorem dX11_court_126 : decode cX11_court 126 = .ok (.iload_n 3, 1) := by decide +kernel
theorem dX11_court_127 : decode cX11_court 127 = .ok (.invokestatic 345, 3) := by decide +kernel
theorem dX11_court_130 : decode cX11_court 130 = .ok (.ifCond .eq 7, 3) := by decide +kernel
theorem dX11_court_133 : decode cX11_court 133 = .ok (.iconst 1, 1) := by decide +kernel
theorem dX11_court_134 : decode cX11_court 134 = .ok (.goto 4, 3) := by decide +kernel
theorem dX11_court_137 : decode cX11_court 137 = .ok (.iconst 0, 1) := by decide +kernel
theorem dX11_court_138 : decode cX11_court 138 = .ok (.istore 7, 2) := by decide +kernel
theorem dX11_court_140 : decode cX11_court 140 = .ok (.iinc 8 1, 3) := by decide +kernel
theorem dX11_court_143 : decode cX11_court 143 = .ok (.goto (-64), 3) := by decide +kernel
theorem dX11_court_146 : decode cX11_court 146 = .ok (.iload 5, 2) := by decide +kernel
theorem dX11_court_148 : decode cX11_court 148 = .ok (.iload 7, 2) := by decide +kernel
theorem dX11_court_150 : decode cX11_court 150 = .ok (.ifCond .eq 7, 3) := by decide +kernel
theorem dX11_court_153 : decode cX11_court 153 = .ok (.iconst 0, 1) := by decide +kernel
theorem dX11_court_154 : decode cX11_court 154 = .ok (.goto 4, 3) := by decide +kernel
theorem dX11_court_157 : decode cX11_court 157 = .ok (.iconst 1, 1) := by decide +kernel
theorem dX11_court_158 : decode cX11_court 158 = .ok (.iadd, 1) := by decide +kernel
theorem dX11_court_159 : decode cX11_court 159 = .ok (.istore 5, 2) := by decide +kernel
theorem dX11_court_161 : decode cX11_court 161 = .ok (.iinc 6 1, 3) := by decide +kernel
theorem dX11_court_164 : decode cX11_court 164 = .ok (.goto (-102), 3) := by decide +kernel
theorem dX11_court_167 : decode cX11_court 167 = .ok (.iload 5, 2) := by decide +kernel
theorem dX11_court_169 : decode cX11_court 169 = .ok (.ireturn, 1) := by decide +kernel
theorem dX11_near_0 : decode cX11_near 0 = .ok (.aload_n 0, 1) := by decide +kernel
theorem dX11_near_1 : decode cX11_near 1 = .ok (.iconst 0, 1) := by decide +kernel
theorem dX11_near_2 : decode cX11_near 2 = .ok (.putfield 154, 3) := by decide +kernel
theorem dX11_near_5 : decode cX11_near 5 = .ok (.aload_n 0, 1) := by decide +kernel
theorem dX11_near_6 : decode cX11_near 6 = .ok (.iload_n 1, 1) := by decide +kernel
theorem dX11_near_7 : decode cX11_near 7 = .ok (.iload_n 2, 1) := by decide +kernel
theorem dX11_near_8 : decode cX11_near 8 = .ok (.invokevirtual 362, 3) := by decide +kernel
theorem dX11_near_11 : decode cX11_near 11 = .ok (.ifCond .ne 9, 3) := by decide +kernel
theorem dX11_near_14 : decode cX11_near 14 = .ok (.aload_n 0, 1) := by decide +kernel
theorem dX11_near_15 : decode cX11_near 15 = .ok (.iconst 1, 1) := by decide +kernel
theorem dX11_near_16 : decode cX11_near 16 = .ok (.invokevirtual 287, 3) := by decide +kernel
theorem dX11_near_19 : decode cX11_near 19 = .ok (.ireturn, 1) := by decide +kernel
theorem dX11_near_20 : decode cX11_near 20 = .ok (.iload_n 3, 1) := by decide +kernel
theorem dX11_near_21 : decode cX11_near 21 = .ok (.iconst 0, 1) := by decide +kernel
theorem dX11_near_22 : decode cX11_near 22 = .ok (.bipush 30, 2) := by decide +kernel
theorem dX11_near_24 : decode cX11_near 24 = .ok (.invokestatic 160, 3) := by decide +kernel
theorem dX11_near_27 : decode cX11_near 27 = .ok (.ifCond .ne 9, 3) := by decide +kernel
theorem dX11_near_30 : decode cX11_near 30 = .ok (.aload_n 0, 1) := by decide +kernel
theorem dX11_near_31 : decode cX11_near 31 = .ok (.iconst 2, 1) := by decide +kernel
theorem dX11_near_32 : decode cX11_near 32 = .ok (.invokevirtual 287, 3) := by decide +kernel
theorem dX11_near_35 : decode cX11_near 35 = .ok (.ireturn, 1) := by decide +kernel
theorem dX11_near_36 : decode cX11_near 36 = .ok (.iconst 0, 1) := by decide +kernel
theorem dX11_near_37 : decode cX11_near 37 = .ok (.istore 4, 2) := by decide +kernel
theorem dX11_near_39 : decode cX11_near 39 = .ok (.iconst 0, 1) := by decide +kernel
theorem dX11_near_40 : decode cX11_near 40 = .ok (.istore 5, 2) := by decide +kernel
theorem dX11_near_42 : decode cX11_near 42 = .ok (.iload 5, 2) := by decide +kernel
theorem dX11_near_44 : decode cX11_near 44 = .ok (.aload_n 0, 1) := by decide +kernel
theorem dX11_near_45 : decode cX11_near 45 = .ok (.getfield 61, 3) := by decide +kernel
theorem dX11_near_48 : decode cX11_near 48 = .ok (.iload_n 1, 1) := by decide +kernel
theorem dX11_near_49 : decode cX11_near 49 = .ok (.iaload, 1) := by decide +kernel
theorem dX11_near_50 : decode cX11_near 50 = .ok (.if_icmp .ge 40, 3) := by decide +kernel
theorem dX11_near_53 : decode cX11_near 53 = .ok (.iload 4, 2) := by decide +kernel
theorem dX11_near_55 : decode cX11_near 55 = .ok (.aload_n 0, 1) := by decide +kernel
theorem dX11_near_56 : decode cX11_near 56 = .ok (.iload_n 1, 1) := by decide +kernel
theorem dX11_near_57 : decode cX11_near 57 = .ok (.iload 5, 2) := by decide +kernel
theorem dX11_near_59 : decode cX11_near 59 = .ok (.invokevirtual 349, 3) := by decide +kernel
theorem dX11_near_62 : decode cX11_near 62 = .ok (.aload_n 0, 1) := by decide +kernel
theorem dX11_near_63 : decode cX11_near 63 = .ok (.iload_n 1, 1) := by decide +kernel
theorem dX11_near_64 : decode cX11_near 64 = .ok (.iload_n 2, 1) := by decide +kernel
theorem dX11_near_65 : decode cX11_near 65 = .ok (.invokevirtual 349, 3) := by decide +kernel
theorem dX11_near_68 : decode cX11_near 68 = .ok (.ixor, 1) := by decide +kernel
theorem dX11_near_69 : decode cX11_near 69 = .ok (.invokestatic 324, 3) := by decide +kernel
theorem dX11_near_72 : decode cX11_near 72 = .ok (.iload_n 3, 1) := by decide +kernel
theorem dX11_near_73 : decode cX11_near 73 = .ok (.if_icmp .ge 7, 3) := by decide +kernel
theorem dX11_near_76 : decode cX11_near 76 = .ok (.iconst 1, 1) := by decide +kernel
theorem dX11_near_77 : decode cX11_near 77 = .ok (.goto 4, 3) := by decide +kernel
theorem dX11_near_80 : decode cX11_near 80 = .ok (.iconst 0, 1) := by decide +kernel
theorem dX11_near_81 : decode cX11_near 81 = .ok (.iadd, 1) := by decide +kernel
theorem dX11_near_82 : decode cX11_near 82 = .ok (.istore 4, 2) := by decide +kernel
theorem dX11_near_84 : decode cX11_near 84 = .ok (.iinc 5 1, 3) := by decide +kernel
theorem dX11_near_87 : decode cX11_near 87 = .ok (.goto (-45), 3) := by decide +kernel
theorem dX11_near_90 : decode cX11_near 90 = .ok (.iload 4, 2) := by decide +kernel
theorem dX11_near_92 : decode cX11_near 92 = .ok (.ireturn, 1) := by decide +kernel
theorem dX11_draw_0 : decode cX11_draw 0 = .ok (.aload_n 0, 1) := by decide +kernel
theorem dX11_draw_1 : decode cX11_draw 1 = .ok (.aload_n 0, 1) := by decide +kernel
theorem dX11_draw_2 : decode cX11_draw 2 = .ok (.getfield 412, 3) := by decide +kernel
theorem dX11_draw_5 : decode cX11_draw 5 = .ok (.ldc_w 415, 3) := by decide +kernel
theorem dX11_draw_8 : decode cX11_draw 8 = .ok (.imul, 1) := by decide +kernel
theorem dX11_draw_9 : decode cX11_draw 9 = .ok (.sipush 12345, 3) := by decide +kernel
theorem dX11_draw_12 : decode cX11_draw 12 = .ok (.iadd, 1) := by decide +kernel
theorem dX11_draw_13 : decode cX11_draw 13 = .ok (.putfield 412, 3) := by decide +kernel
theorem dX11_draw_16 : decode cX11_draw 16 = .ok (.aload_n 0, 1) := by decide +kernel
theorem dX11_draw_17 : decode cX11_draw 17 = .ok (.getfield 412, 3) := by decide +kernel
theorem dX11_draw_20 : decode cX11_draw 20 = .ok (.bipush 16, 2) := by decide +kernel
theorem dX11_draw_22 : decode cX11_draw 22 = .ok (.ishr, 1) := by decide +kernel
theorem dX11_draw_23 : decode cX11_draw 23 = .ok (.sipush 32767, 3) := by decide +kernel
theorem dX11_draw_26 : decode cX11_draw 26 = .ok (.iand, 1) := by decide +kernel
theorem dX11_draw_27 : decode cX11_draw 27 = .ok (.iload_n 1, 1) := by decide +kernel
theorem dX11_draw_28 : decode cX11_draw 28 = .ok (.irem, 1) := by decide +kernel
theorem dX11_draw_29 : decode cX11_draw 29 = .ok (.ireturn, 1) := by decide +kernel
theorem dX11_drawn_0 : decode cX11_drawn 0 = .ok (.aload_n 0, 1) := by decide +kernel
theorem dX11_drawn_1 : decode cX11_drawn 1 = .ok (.iconst 0, 1) := by decide +kernel
theorem dX11_drawn_2 : decode cX11_drawn 2 = .ok (.putfield 154, 3) := by decide +kernel
theorem dX11_drawn_5 : decode cX11_drawn 5 = .ok (.iload 4, 2) := by decide +kernel
theorem dX11_drawn_7 : decode cX11_drawn 7 = .ok (.iconst 0, 1) := by decide +kernel
theorem dX11_drawn_8 : decode cX11_drawn 8 = .ok (.iconst 2, 1) := by decide +kernel
theorem dX11_drawn_9 : decode cX11_drawn 9 = .ok (.invokestatic 160, 3) := by decide +kernel
theorem dX11_drawn_12 : decode cX11_drawn 12 = .ok (.ifCond .ne 9, 3) := by decide +kernel
theorem dX11_drawn_15 : decode cX11_drawn 15 = .ok (.aload_n 0, 1) := by decide +kernel
theorem dX11_drawn_16 : decode cX11_drawn 16 = .ok (.iconst 1, 1) := by decide +kernel
theorem dX11_drawn_17 : decode cX11_drawn 17 = .ok (.invokevirtual 287, 3) := by decide +kernel
theorem dX11_drawn_20 : decode cX11_drawn 20 = .ok (.ireturn, 1) := by decide +kernel
theorem dX11_drawn_21 : decode cX11_drawn 21 = .ok (.iload_n 1, 1) := by decide +kernel
theorem dX11_drawn_22 : decode cX11_drawn 22 = .ok (.iconst 1, 1) := by decide +kernel
theorem dX11_drawn_23 : decode cX11_drawn 23 = .ok (.bipush 100, 2) := by decide +kernel
theorem dX11_drawn_25 : decode cX11_drawn 25 = .ok (.invokestatic 160, 3) := by decide +kernel
theorem dX11_drawn_28 : decode cX11_drawn 28 = .ok (.ifCond .eq 14, 3) := by decide +kernel
theorem dX11_drawn_31 : decode cX11_drawn 31 = .ok (.iload_n 2, 1) := by decide +kernel
theorem dX11_drawn_32 : decode cX11_drawn 32 = .ok (.iconst 0, 1) := by decide +kernel
theorem dX11_drawn_33 : decode cX11_drawn 33 = .ok (.sipush 1000, 3) := by decide +kernel
theorem dX11_drawn_36 : decode cX11_drawn 36 = .ok (.invokestatic 160, 3) := by decide +kernel
theorem dX11_drawn_39 : decode cX11_drawn 39 = .ok (.ifCond .ne 9, 3) := by decide +kernel
theorem dX11_drawn_42 : decode cX11_drawn 42 = .ok (.aload_n 0, 1) := by decide +kernel
theorem dX11_drawn_43 : decode cX11_drawn 43 = .ok (.iconst 2, 1) := by decide +kernel
theorem dX11_drawn_44 : decode cX11_drawn 44 = .ok (.invokevirtual 287, 3) := by decide +kernel
theorem dX11_drawn_47 : decode cX11_drawn 47 = .ok (.ireturn, 1) := by decide +kernel
theorem dX11_drawn_48 : decode cX11_drawn 48 = .ok (.aload_n 0, 1) := by decide +kernel
theorem dX11_drawn_49 : decode cX11_drawn 49 = .ok (.iload_n 3, 1) := by decide +kernel
theorem dX11_drawn_50 : decode cX11_drawn 50 = .ok (.putfield 412, 3) := by decide +kernel
theorem dX11_drawn_53 : decode cX11_drawn 53 = .ok (.iconst 0, 1) := by decide +kernel
theorem dX11_drawn_54 : decode cX11_drawn 54 = .ok (.istore 5, 2) := by decide +kernel
theorem dX11_drawn_56 : decode cX11_drawn 56 = .ok (.iconst 0, 1) := by decide +kernel
theorem dX11_drawn_57 : decode cX11_drawn 57 = .ok (.istore 6, 2) := by decide +kernel
theorem dX11_drawn_59 : decode cX11_drawn 59 = .ok (.iconst 0, 1) := by decide +kernel
theorem dX11_drawn_60 : decode cX11_drawn 60 = .ok (.istore 7, 2) := by decide +kernel
theorem dX11_drawn_62 : decode cX11_drawn 62 = .ok (.iconst 0, 1) := by decide +kernel
theorem dX11_drawn_63 : decode cX11_drawn 63 = .ok (.istore 8, 2) := by decide +kernel
theorem dX11_drawn_65 : decode cX11_drawn 65 = .ok (.iload 8, 2) := by decide +kernel
theorem dX11_drawn_67 : decode cX11_drawn 67 = .ok (.iload_n 1, 1) := by decide +kernel
theorem dX11_drawn_68 : decode cX11_drawn 68 = .ok (.if_icmp .ge 95, 3) := by decide +kernel
theorem dX11_drawn_71 : decode cX11_drawn 71 = .ok (.iconst 0, 1) := by decide +kernel
theorem dX11_drawn_72 : decode cX11_drawn 72 = .ok (.istore 9, 2) := by decide +kernel
theorem dX11_drawn_74 : decode cX11_drawn 74 = .ok (.iload 9, 2) := by decide +kernel
theorem dX11_drawn_76 : decode cX11_drawn 76 = .ok (.aload_n 0, 1) := by decide +kernel
theorem dX11_drawn_77 : decode cX11_drawn 77 = .ok (.getfield 157, 3) := by decide +kernel
theorem dX11_drawn_80 : decode cX11_drawn 80 = .ok (.if_icmp .ge 77, 3) := by decide +kernel
theorem dX11_drawn_83 : decode cX11_drawn 83 = .ok (.aload_n 0, 1) := by decide +kernel
theorem dX11_drawn_84 : decode cX11_drawn 84 = .ok (.sipush 1000, 3) := by decide +kernel
theorem dX11_drawn_87 : decode cX11_drawn 87 = .ok (.invokevirtual 416, 3) := by decide +kernel
theorem dX11_drawn_90 : decode cX11_drawn 90 = .ok (.iload_n 2, 1) := by decide +kernel
theorem dX11_drawn_91 : decode cX11_drawn 91 = .ok (.if_icmp .lt 6, 3) := by decide +kernel
theorem dX11_drawn_94 : decode cX11_drawn 94 = .ok (.goto 57, 3) := by decide +kernel
theorem dX11_drawn_97 : decode cX11_drawn 97 = .ok (.aload_n 0, 1) := by decide +kernel
theorem dX11_drawn_98 : decode cX11_drawn 98 = .ok (.iload 9, 2) := by decide +kernel
theorem dX11_drawn_100 : decode cX11_drawn 100 = .ok (.iconst 0, 1) := by decide +kernel
theorem dX11_drawn_101 : decode cX11_drawn 101 = .ok (.invokevirtual 378, 3) := by decide +kernel
theorem dX11_drawn_104 : decode cX11_drawn 104 = .ok (.istore 10, 2) := by decide +kernel
theorem dX11_drawn_106 : decode cX11_drawn 106 = .ok (.iload 10, 2) := by decide +kernel
theorem dX11_drawn_108 : decode cX11_drawn 108 = .ok (.iconst (-1), 1) := by decide +kernel
theorem dX11_drawn_109 : decode cX11_drawn 109 = .ok (.if_icmp .eq 39, 3) := by decide +kernel
theorem dX11_drawn_112 : decode cX11_drawn 112 = .ok (.aload_n 0, 1) := by decide +kernel
theorem dX11_drawn_113 : decode cX11_drawn 113 = .ok (.iload 9, 2) := by decide +kernel
theorem dX11_drawn_115 : decode cX11_drawn 115 = .ok (.iload 10, 2) := by decide +kernel
theorem dX11_drawn_117 : decode cX11_drawn 117 = .ok (.invokevirtual 375, 3) := by decide +kernel
theorem dX11_drawn_120 : decode cX11_drawn 120 = .ok (.ifCond .eq 28, 3) := by decide +kernel
theorem dX11_drawn_123 : decode cX11_drawn 123 = .ok (.iload 5, 2) := by decide +kernel
theorem dX11_drawn_125 : decode cX11_drawn 125 = .ok (.aload_n 0, 1) := by decide +kernel
theorem dX11_drawn_126 : decode cX11_drawn 126 = .ok (.getfield 64, 3) := by decide +kernel
theorem dX11_drawn_129 : decode cX11_drawn 129 = .ok (.sipush 2000, 3) := by decide +kernel
theorem dX11_drawn_132 : decode cX11_drawn 132 = .ok (.iload 9, 2) := by decide +kernel
theorem dX11_drawn_134 : decode cX11_drawn 134 = .ok (.imul, 1) := by decide +kernel
theorem dX11_drawn_135 : decode cX11_drawn 135 = .ok (.iload 10, 2) := by decide +kernel
theorem dX11_drawn_137 : decode cX11_drawn 137 = .ok (.iadd, 1) := by decide +kernel
theorem dX11_drawn_138 : decode cX11_drawn 138 = .ok (.iaload, 1) := by decide +kernel
theorem dX11_drawn_139 : decode cX11_drawn 139 = .ok (.iadd, 1) := by decide +kernel
theorem dX11_drawn_140 : decode cX11_drawn 140 = .ok (.istore 5, 2) := by decide +kernel
theorem dX11_drawn_142 : decode cX11_drawn 142 = .ok (.iinc 6 1, 3) := by decide +kernel
theorem dX11_drawn_145 : decode cX11_drawn 145 = .ok (.goto 6, 3) := by decide +kernel
theorem dX11_drawn_148 : decode cX11_drawn 148 = .ok (.iinc 7 1, 3) := by decide +kernel
theorem dX11_drawn_151 : decode cX11_drawn 151 = .ok (.iinc 9 1, 3) := by decide +kernel
theorem dX11_drawn_154 : decode cX11_drawn 154 = .ok (.goto (-80), 3) := by decide +kernel
theorem dX11_drawn_157 : decode cX11_drawn 157 = .ok (.iinc 8 1, 3) := by decide +kernel
theorem dX11_drawn_160 : decode cX11_drawn 160 = .ok (.goto (-95), 3) := by decide +kernel
theorem dX11_drawn_163 : decode cX11_drawn 163 = .ok (.iload 4, 2) := by decide +kernel
theorem dX11_drawn_165 : decode cX11_drawn 165 = .ok (.ifCond .ne 8, 3) := by decide +kernel
theorem dX11_drawn_168 : decode cX11_drawn 168 = .ok (.iload 5, 2) := by decide +kernel
theorem dX11_drawn_170 : decode cX11_drawn 170 = .ok (.goto 16, 3) := by decide +kernel
theorem dX11_drawn_173 : decode cX11_drawn 173 = .ok (.iload 4, 2) := by decide +kernel
theorem dX11_drawn_175 : decode cX11_drawn 175 = .ok (.iconst 1, 1) := by decide +kernel
theorem dX11_drawn_176 : decode cX11_drawn 176 = .ok (.if_icmp .ne 8, 3) := by decide +kernel
theorem dX11_drawn_179 : decode cX11_drawn 179 = .ok (.iload 6, 2) := by decide +kernel
theorem dX11_drawn_181 : decode cX11_drawn 181 = .ok (.goto 5, 3) := by decide +kernel
theorem dX11_drawn_184 : decode cX11_drawn 184 = .ok (.iload 7, 2) := by decide +kernel
theorem dX11_drawn_186 : decode cX11_drawn 186 = .ok (.ireturn, 1) := by decide +kernel
theorem dX11_be_0 : decode cX11_be 0 = .ok (.iconst 0, 1) := by decide +kernel
theorem dX11_be_1 : decode cX11_be 1 = .ok (.istore_n 2, 1) := by decide +kernel
theorem dX11_be_2 : decode cX11_be 2 = .ok (.iload_n 2, 1) := by decide +kernel
theorem dX11_be_3 : decode cX11_be 3 = .ok (.aload_n 0, 1) := by decide +kernel
theorem dX11_be_4 : decode cX11_be 4 = .ok (.arraylength, 1) := by decide +kernel
theorem dX11_be_5 : decode cX11_be 5 = .ok (.if_icmp .ge 15, 3) := by decide +kernel
theorem dX11_be_8 : decode cX11_be 8 = .ok (.aload_n 0, 1) := by decide +kernel
theorem dX11_be_9 : decode cX11_be 9 = .ok (.iload_n 2, 1) := by decide +kernel
theorem dX11_be_10 : decode cX11_be 10 = .ok (.aload_n 1, 1) := by decide +kernel
theorem dX11_be_11 : decode cX11_be 11 = .ok (.iload_n 2, 1) := by decide +kernel
theorem dX11_be_12 : decode cX11_be 12 = .ok (.iaload, 1) := by decide +kernel
theorem dX11_be_13 : decode cX11_be 13 = .ok (.iastore, 1) := by decide +kernel
theorem dX11_be_14 : decode cX11_be 14 = .ok (.iinc 2 1, 3) := by decide +kernel
theorem dX11_be_17 : decode cX11_be 17 = .ok (.goto (-15), 3) := by decide +kernel
theorem dX11_be_20 : decode cX11_be 20 = .ok (.return_, 1) := by decide +kernel
theorem dX11_image_0 : decode cX11_image 0 = .ok (.aload_n 0, 1) := by decide +kernel
theorem dX11_image_1 : decode cX11_image 1 = .ok (.iconst 0, 1) := by decide +kernel
theorem dX11_image_2 : decode cX11_image 2 = .ok (.putfield 154, 3) := by decide +kernel
theorem dX11_image_5 : decode cX11_image 5 = .ok (.aload_n 0, 1) := by decide +kernel
theorem dX11_image_6 : decode cX11_image 6 = .ok (.iconst 1, 1) := by decide +kernel
theorem dX11_image_7 : decode cX11_image 7 = .ok (.putfield 299, 3) := by decide +kernel
theorem dX11_image_10 : decode cX11_image 10 = .ok (.aload_n 0, 1) := by decide +kernel
theorem dX11_image_11 : decode cX11_image 11 = .ok (.aload_n 0, 1) := by decide +kernel
theorem dX11_image_12 : decode cX11_image 12 = .ok (.getfield 293, 3) := by decide +kernel
theorem dX11_image_15 : decode cX11_image 15 = .ok (.putfield 419, 3) := by decide +kernel
theorem dX11_image_18 : decode cX11_image 18 = .ok (.aload_n 0, 1) := by decide +kernel
theorem dX11_image_19 : decode cX11_image 19 = .ok (.getfield 130, 3) := by decide +kernel
theorem dX11_image_22 : decode cX11_image 22 = .ok (.aload_n 0, 1) := by decide +kernel
theorem dX11_image_23 : decode cX11_image 23 = .ok (.getfield 74, 3) := by decide +kernel
theorem dX11_image_26 : decode cX11_image 26 = .ok (.invokestatic 422, 3) := by decide +kernel
theorem dX11_image_29 : decode cX11_image 29 = .ok (.aload_n 0, 1) := by decide +kernel
theorem dX11_image_30 : decode cX11_image 30 = .ok (.getfield 133, 3) := by decide +kernel
theorem dX11_image_33 : decode cX11_image 33 = .ok (.aload_n 0, 1) := by decide +kernel
theorem dX11_image_34 : decode cX11_image 34 = .ok (.getfield 77, 3) := by decide +kernel
theorem dX11_image_37 : decode cX11_image 37 = .ok (.invokestatic 422, 3) := by decide +kernel
theorem dX11_image_40 : decode cX11_image 40 = .ok (.aload_n 0, 1) := by decide +kernel
theorem dX11_image_41 : decode cX11_image 41 = .ok (.getfield 136, 3) := by decide +kernel
theorem dX11_image_44 : decode cX11_image 44 = .ok (.aload_n 0, 1) := by decide +kernel
theorem dX11_image_45 : decode cX11_image 45 = .ok (.getfield 80, 3) := by decide +kernel
theorem dX11_image_48 : decode cX11_image 48 = .ok (.invokestatic 422, 3) := by decide +kernel
theorem dX11_image_51 : decode cX11_image 51 = .ok (.aload_n 0, 1) := by decide +kernel
theorem dX11_image_52 : decode cX11_image 52 = .ok (.getfield 139, 3) := by decide +kernel
theorem dX11_image_55 : decode cX11_image 55 = .ok (.aload_n 0, 1) := by decide +kernel
theorem dX11_image_56 : decode cX11_image 56 = .ok (.getfield 83, 3) := by decide +kernel
theorem dX11_image_59 : decode cX11_image 59 = .ok (.invokestatic 422, 3) := by decide +kernel
theorem dX11_image_62 : decode cX11_image 62 = .ok (.aload_n 0, 1) := by decide +kernel
theorem dX11_image_63 : decode cX11_image 63 = .ok (.getfield 142, 3) := by decide +kernel
theorem dX11_image_66 : decode cX11_image 66 = .ok (.aload_n 0, 1) := by decide +kernel
theorem dX11_image_67 : decode cX11_image 67 = .ok (.getfield 86, 3) := by decide +kernel
theorem dX11_image_70 : decode cX11_image 70 = .ok (.invokestatic 422, 3) := by decide +kernel
theorem dX11_image_73 : decode cX11_image 73 = .ok (.aload_n 0, 1) := by decide +kernel
theorem dX11_image_74 : decode cX11_image 74 = .ok (.getfield 145, 3) := by decide +kernel
theorem dX11_image_77 : decode cX11_image 77 = .ok (.aload_n 0, 1) := by decide +kernel
theorem dX11_image_78 : decode cX11_image 78 = .ok (.getfield 89, 3) := by decide +kernel
theorem dX11_image_81 : decode cX11_image 81 = .ok (.invokestatic 422, 3) := by decide +kernel
theorem dX11_image_84 : decode cX11_image 84 = .ok (.aload_n 0, 1) := by decide +kernel
theorem dX11_image_85 : decode cX11_image 85 = .ok (.getfield 148, 3) := by decide +kernel
theorem dX11_image_88 : decode cX11_image 88 = .ok (.aload_n 0, 1) := by decide +kernel
theorem dX11_image_89 : decode cX11_image 89 = .ok (.getfield 92, 3) := by decide +kernel
theorem dX11_image_92 : decode cX11_image 92 = .ok (.invokestatic 422, 3) := by decide +kernel
theorem dX11_image_95 : decode cX11_image 95 = .ok (.aload_n 0, 1) := by decide +kernel
theorem dX11_image_96 : decode cX11_image 96 = .ok (.getfield 151, 3) := by decide +kernel
theorem dX11_image_99 : decode cX11_image 99 = .ok (.aload_n 0, 1) := by decide +kernel
theorem dX11_image_100 : decode cX11_image 100 = .ok (.getfield 95, 3) := by decide +kernel
theorem dX11_image_103 : decode cX11_image 103 = .ok (.invokestatic 422, 3) := by decide +kernel
theorem dX11_image_106 : decode cX11_image 106 = .ok (.return_, 1) := by decide +kernel
theorem dX11_restore_0 : decode cX11_restore 0 = .ok (.aload_n 0, 1) := by decide +kernel
theorem dX11_restore_1 : decode cX11_restore 1 = .ok (.iconst 0, 1) := by decide +kernel
theorem dX11_restore_2 : decode cX11_restore 2 = .ok (.putfield 154, 3) := by decide +kernel
theorem dX11_restore_5 : decode cX11_restore 5 = .ok (.aload_n 0, 1) := by decide +kernel
theorem dX11_restore_6 : decode cX11_restore 6 = .ok (.getfield 299, 3) := by decide +kernel
theorem dX11_restore_9 : decode cX11_restore 9 = .ok (.ifCond .ne 5, 3) := by decide +kernel
theorem dX11_restore_12 : decode cX11_restore 12 = .ok (.iconst 0, 1) := by decide +kernel
theorem dX11_restore_13 : decode cX11_restore 13 = .ok (.ireturn, 1) := by decide +kernel
theorem dX11_restore_14 : decode cX11_restore 14 = .ok (.aload_n 0, 1) := by decide +kernel
theorem dX11_restore_15 : decode cX11_restore 15 = .ok (.aload_n 0, 1) := by decide +kernel
theorem dX11_restore_16 : decode cX11_restore 16 = .ok (.getfield 419, 3) := by decide +kernel
theorem dX11_restore_19 : decode cX11_restore 19 = .ok (.putfield 293, 3) := by decide +kernel
theorem dX11_restore_22 : decode cX11_restore 22 = .ok (.aload_n 0, 1) := by decide +kernel
theorem dX11_restore_23 : decode cX11_restore 23 = .ok (.getfield 74, 3) := by decide +kernel
theorem dX11_restore_26 : decode cX11_restore 26 = .ok (.aload_n 0, 1) := by decide +kernel
theorem dX11_restore_27 : decode cX11_restore 27 = .ok (.getfield 130, 3) := by decide +kernel
theorem dX11_restore_30 : decode cX11_restore 30 = .ok (.invokestatic 422, 3) := by decide +kernel
theorem dX11_restore_33 : decode cX11_restore 33 = .ok (.aload_n 0, 1) := by decide +kernel
theorem dX11_restore_34 : decode cX11_restore 34 = .ok (.getfield 77, 3) := by decide +kernel
theorem dX11_restore_37 : decode cX11_restore 37 = .ok (.aload_n 0, 1) := by decide +kernel
theorem dX11_restore_38 : decode cX11_restore 38 = .ok (.getfield 133, 3) := by decide +kernel
theorem dX11_restore_41 : decode cX11_restore 41 = .ok (.invokestatic 422, 3) := by decide +kernel
theorem dX11_restore_44 : decode cX11_restore 44 = .ok (.aload_n 0, 1) := by decide +kernel
theorem dX11_restore_45 : decode cX11_restore 45 = .ok (.getfield 80, 3) := by decide +kernel
theorem dX11_restore_48 : decode cX11_restore 48 = .ok (.aload_n 0, 1) := by decide +kernel
theorem dX11_restore_49 : decode cX11_restore 49 = .ok (.getfield 136, 3) := by decide +kernel
theorem dX11_restore_52 : decode cX11_restore 52 = .ok (.invokestatic 422, 3) := by decide +kernel
theorem dX11_restore_55 : decode cX11_restore 55 = .ok (.aload_n 0, 1) := by decide +kernel
theorem dX11_restore_56 : decode cX11_restore 56 = .ok (.getfield 83, 3) := by decide +kernel
theorem dX11_restore_59 : decode cX11_restore 59 = .ok (.aload_n 0, 1) := by decide +kernel
theorem dX11_restore_60 : decode cX11_restore 60 = .ok (.getfield 139, 3) := by decide +kernel
theorem dX11_restore_63 : decode cX11_restore 63 = .ok (.invokestatic 422, 3) := by decide +kernel
theorem dX11_restore_66 : decode cX11_restore 66 = .ok (.aload_n 0, 1) := by decide +kernel
theorem dX11_restore_67 : decode cX11_restore 67 = .ok (.getfield 86, 3) := by decide +kernel
theorem dX11_restore_70 : decode cX11_restore 70 = .ok (.aload_n 0, 1) := by decide +kernel
theorem dX11_restore_71 : decode cX11_restore 71 = .ok (.getfield 142, 3) := by decide +kernel
theorem dX11_restore_74 : decode cX11_restore 74 = .ok (.invokestatic 422, 3) := by decide +kernel
theorem dX11_restore_77 : decode cX11_restore 77 = .ok (.aload_n 0, 1) := by decide +kernel
theorem dX11_restore_78 : decode cX11_restore 78 = .ok (.getfield 89, 3) := by decide +kernel
theorem dX11_restore_81 : decode cX11_restore 81 = .ok (.aload_n 0, 1) := by decide +kernel
theorem dX11_restore_82 : decode cX11_restore 82 = .ok (.getfield 145, 3) := by decide +kernel
theorem dX11_restore_85 : decode cX11_restore 85 = .ok (.invokestatic 422, 3) := by decide +kernel
theorem dX11_restore_88 : decode cX11_restore 88 = .ok (.aload_n 0, 1) := by decide +kernel
theorem dX11_restore_89 : decode cX11_restore 89 = .ok (.getfield 92, 3) := by decide +kernel
theorem dX11_restore_92 : decode cX11_restore 92 = .ok (.aload_n 0, 1) := by decide +kernel
theorem dX11_restore_93 : decode cX11_restore 93 = .ok (.getfield 148, 3) := by decide +kernel
theorem dX11_restore_96 : decode cX11_restore 96 = .ok (.invokestatic 422, 3) := by decide +kernel
theorem dX11_restore_99 : decode cX11_restore 99 = .ok (.aload_n 0, 1) := by decide +kernel
theorem dX11_restore_100 : decode cX11_restore 100 = .ok (.getfield 95, 3) := by decide +kernel
theorem dX11_restore_103 : decode cX11_restore 103 = .ok (.aload_n 0, 1) := by decide +kernel
theorem dX11_restore_104 : decode cX11_restore 104 = .ok (.getfield 151, 3) := by decide +kernel
theorem dX11_restore_107 : decode cX11_restore 107 = .ok (.invokestatic 422, 3) := by decide +kernel
theorem dX11_restore_110 : decode cX11_restore 110 = .ok (.iconst 0, 1) := by decide +kernel
theorem dX11_restore_111 : decode cX11_restore 111 = .ok (.istore_n 1, 1) := by decide +kernel
theorem dX11_restore_112 : decode cX11_restore 112 = .ok (.iload_n 1, 1) := by decide +kernel
theorem dX11_restore_113 : decode cX11_restore 113 = .ok (.aload_n 0, 1) := by decide +kernel
theorem dX11_restore_114 : decode cX11_restore 114 = .ok (.getfield 157, 3) := by decide +kernel
theorem dX11_restore_117 : decode cX11_restore 117 = .ok (.if_icmp .ge 14, 3) := by decide +kernel
theorem dX11_restore_120 : decode cX11_restore 120 = .ok (.aload_n 0, 1) := by decide +kernel
theorem dX11_restore_121 : decode cX11_restore 121 = .ok (.iload_n 1, 1) := by decide +kernel
theorem dX11_restore_122 : decode cX11_restore 122 = .ok (.invokevirtual 317, 3) := by decide +kernel
theorem dX11_restore_125 : decode cX11_restore 125 = .ok (.iinc 1 1, 3) := by decide +kernel
theorem dX11_restore_128 : decode cX11_restore 128 = .ok (.goto (-16), 3) := by decide +kernel
theorem dX11_restore_131 : decode cX11_restore 131 = .ok (.iconst 1, 1) := by decide +kernel
theorem dX11_restore_132 : decode cX11_restore 132 = .ok (.ireturn, 1) := by decide +kernel
theorem dJ6_bitCount_0f7a4_0 : decode cJ6_bitCount_0f7a4 0 = .ok (.iload_n 0, 1) := by decide +kernel
theorem dJ6_bitCount_0f7a4_1 : decode cJ6_bitCount_0f7a4 1 = .ok (.iload_n 0, 1) := by decide +kernel
theorem dJ6_bitCount_0f7a4_2 : decode cJ6_bitCount_0f7a4 2 = .ok (.iconst 1, 1) := by decide +kernel
theorem dJ6_bitCount_0f7a4_3 : decode cJ6_bitCount_0f7a4 3 = .ok (.iushr, 1) := by decide +kernel
theorem dJ6_bitCount_0f7a4_4 : decode cJ6_bitCount_0f7a4 4 = .ok (.ldc_w 265, 3) := by decide +kernel
theorem dJ6_bitCount_0f7a4_7 : decode cJ6_bitCount_0f7a4 7 = .ok (.iand, 1) := by decide +kernel
theorem dJ6_bitCount_0f7a4_8 : decode cJ6_bitCount_0f7a4 8 = .ok (.isub, 1) := by decide +kernel
theorem dJ6_bitCount_0f7a4_9 : decode cJ6_bitCount_0f7a4 9 = .ok (.istore_n 0, 1) := by decide +kernel
theorem dJ6_bitCount_0f7a4_10 : decode cJ6_bitCount_0f7a4 10 = .ok (.iload_n 0, 1) := by decide +kernel
theorem dJ6_bitCount_0f7a4_11 : decode cJ6_bitCount_0f7a4 11 = .ok (.ldc_w 266, 3) := by decide +kernel
theorem dJ6_bitCount_0f7a4_14 : decode cJ6_bitCount_0f7a4 14 = .ok (.iand, 1) := by decide +kernel
theorem dJ6_bitCount_0f7a4_15 : decode cJ6_bitCount_0f7a4 15 = .ok (.iload_n 0, 1) := by decide +kernel
theorem dJ6_bitCount_0f7a4_16 : decode cJ6_bitCount_0f7a4 16 = .ok (.iconst 2, 1) := by decide +kernel
theorem dJ6_bitCount_0f7a4_17 : decode cJ6_bitCount_0f7a4 17 = .ok (.iushr, 1) := by decide +kernel
theorem dJ6_bitCount_0f7a4_18 : decode cJ6_bitCount_0f7a4 18 = .ok (.ldc_w 266, 3) := by decide +kernel
theorem dJ6_bitCount_0f7a4_21 : decode cJ6_bitCount_0f7a4 21 = .ok (.iand, 1) := by decide +kernel
theorem dJ6_bitCount_0f7a4_22 : decode cJ6_bitCount_0f7a4 22 = .ok (.iadd, 1) := by decide +kernel
theorem dJ6_bitCount_0f7a4_23 : decode cJ6_bitCount_0f7a4 23 = .ok (.istore_n 0, 1) := by decide +kernel
theorem dJ6_bitCount_0f7a4_24 : decode cJ6_bitCount_0f7a4 24 = .ok (.iload_n 0, 1) := by decide +kernel
theorem dJ6_bitCount_0f7a4_25 : decode cJ6_bitCount_0f7a4 25 = .ok (.iload_n 0, 1) := by decide +kernel
theorem dJ6_bitCount_0f7a4_26 : decode cJ6_bitCount_0f7a4 26 = .ok (.iconst 4, 1) := by decide +kernel
theorem dJ6_bitCount_0f7a4_27 : decode cJ6_bitCount_0f7a4 27 = .ok (.iushr, 1) := by decide +kernel
theorem dJ6_bitCount_0f7a4_28 : decode cJ6_bitCount_0f7a4 28 = .ok (.iadd, 1) := by decide +kernel
theorem dJ6_bitCount_0f7a4_29 : decode cJ6_bitCount_0f7a4 29 = .ok (.ldc_w 267, 3) := by decide +kernel
theorem dJ6_bitCount_0f7a4_32 : decode cJ6_bitCount_0f7a4 32 = .ok (.iand, 1) := by decide +kernel
theorem dJ6_bitCount_0f7a4_33 : decode cJ6_bitCount_0f7a4 33 = .ok (.istore_n 0, 1) := by decide +kernel
theorem dJ6_bitCount_0f7a4_34 : decode cJ6_bitCount_0f7a4 34 = .ok (.iload_n 0, 1) := by decide +kernel
theorem dJ6_bitCount_0f7a4_35 : decode cJ6_bitCount_0f7a4 35 = .ok (.iload_n 0, 1) := by decide +kernel
theorem dJ6_bitCount_0f7a4_36 : decode cJ6_bitCount_0f7a4 36 = .ok (.bipush 8, 2) := by decide +kernel
theorem dJ6_bitCount_0f7a4_38 : decode cJ6_bitCount_0f7a4 38 = .ok (.iushr, 1) := by decide +kernel
theorem dJ6_bitCount_0f7a4_39 : decode cJ6_bitCount_0f7a4 39 = .ok (.iadd, 1) := by decide +kernel
theorem dJ6_bitCount_0f7a4_40 : decode cJ6_bitCount_0f7a4 40 = .ok (.istore_n 0, 1) := by decide +kernel
theorem dJ6_bitCount_0f7a4_41 : decode cJ6_bitCount_0f7a4 41 = .ok (.iload_n 0, 1) := by decide +kernel
theorem dJ6_bitCount_0f7a4_42 : decode cJ6_bitCount_0f7a4 42 = .ok (.iload_n 0, 1) := by decide +kernel
theorem dJ6_bitCount_0f7a4_43 : decode cJ6_bitCount_0f7a4 43 = .ok (.bipush 16, 2) := by decide +kernel
theorem dJ6_bitCount_0f7a4_45 : decode cJ6_bitCount_0f7a4 45 = .ok (.iushr, 1) := by decide +kernel
theorem dJ6_bitCount_0f7a4_46 : decode cJ6_bitCount_0f7a4 46 = .ok (.iadd, 1) := by decide +kernel
theorem dJ6_bitCount_0f7a4_47 : decode cJ6_bitCount_0f7a4 47 = .ok (.istore_n 0, 1) := by decide +kernel
theorem dJ6_bitCount_0f7a4_48 : decode cJ6_bitCount_0f7a4 48 = .ok (.iload_n 0, 1) := by decide +kernel
theorem dJ6_bitCount_0f7a4_49 : decode cJ6_bitCount_0f7a4 49 = .ok (.bipush 63, 2) := by decide +kernel
theorem dJ6_bitCount_0f7a4_51 : decode cJ6_bitCount_0f7a4 51 = .ok (.iand, 1) := by decide +kernel
theorem dJ6_bitCount_0f7a4_52 : decode cJ6_bitCount_0f7a4 52 = .ok (.ireturn, 1) := by decide +kernel
theorem dJ9_max_7cf53_0 : decode cJ9_max_7cf53 0 = .ok (.iload_n 0, 1) := by decide +kernel
theorem dJ9_max_7cf53_1 : decode cJ9_max_7cf53 1 = .ok (.iload_n 1, 1) := by decide +kernel
theorem dJ9_max_7cf53_2 : decode cJ9_max_7cf53 2 = .ok (.if_icmp .lt 7, 3) := by decide +kernel
theorem dJ9_max_7cf53_5 : decode cJ9_max_7cf53 5 = .ok (.iload_n 0, 1) := by decide +kernel
theorem dJ9_max_7cf53_6 : decode cJ9_max_7cf53 6 = .ok (.goto 4, 3) := by decide +kernel
theorem dJ9_max_7cf53_9 : decode cJ9_max_7cf53 9 = .ok (.iload_n 1, 1) := by decide +kernel
theorem dJ9_max_7cf53_10 : decode cJ9_max_7cf53 10 = .ok (.ireturn, 1) := by decide +kernel
theorem dJ9_min_7cf53_0 : decode cJ9_min_7cf53 0 = .ok (.iload_n 0, 1) := by decide +kernel
theorem dJ9_min_7cf53_1 : decode cJ9_min_7cf53 1 = .ok (.iload_n 1, 1) := by decide +kernel
theorem dJ9_min_7cf53_2 : decode cJ9_min_7cf53 2 = .ok (.if_icmp .gt 7, 3) := by decide +kernel
theorem dJ9_min_7cf53_5 : decode cJ9_min_7cf53 5 = .ok (.iload_n 0, 1) := by decide +kernel
theorem dJ9_min_7cf53_6 : decode cJ9_min_7cf53 6 = .ok (.goto 4, 3) := by decide +kernel
theorem dJ9_min_7cf53_9 : decode cJ9_min_7cf53 9 = .ok (.iload_n 1, 1) := by decide +kernel
theorem dJ9_min_7cf53_10 : decode cJ9_min_7cf53 10 = .ok (.ireturn, 1) := by decide +kernel
theorem dJ0_length_8abf5_0 : decode cJ0_length_8abf5 0 = .ok (.aload_n 0, 1) := by decide +kernel
theorem dJ0_length_8abf5_1 : decode cJ0_length_8abf5 1 = .ok (.getfield 9, 3) := by decide +kernel
theorem dJ0_length_8abf5_4 : decode cJ0_length_8abf5 4 = .ok (.arraylength, 1) := by decide +kernel
theorem dJ0_length_8abf5_5 : decode cJ0_length_8abf5 5 = .ok (.aload_n 0, 1) := by decide +kernel
theorem dJ0_length_8abf5_6 : decode cJ0_length_8abf5 6 = .ok (.invokevirtual 335, 3) := by decide +kernel
theorem dJ0_length_8abf5_9 : decode cJ0_length_8abf5 9 = .ok (.ishr, 1) := by decide +kernel
theorem dJ0_length_8abf5_10 : decode cJ0_length_8abf5 10 = .ok (.ireturn, 1) := by decide +kernel
theorem dJ0_charAt_5068e_0 : decode cJ0_charAt_5068e 0 = .ok (.aload_n 0, 1) := by decide +kernel
theorem dJ0_charAt_5068e_1 : decode cJ0_charAt_5068e 1 = .ok (.invokevirtual 492, 3) := by decide +kernel
theorem dJ0_charAt_5068e_4 : decode cJ0_charAt_5068e 4 = .ok (.ifCond .eq 12, 3) := by decide +kernel
