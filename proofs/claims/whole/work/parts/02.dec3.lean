theorem dX11_readWork_130 : decode cX11_readWork 130 = .ok (.getfield 278, 3) := by decide +kernel
theorem dX11_readWork_133 : decode cX11_readWork 133 = .ok (.iconst 1, 1) := by decide +kernel
theorem dX11_readWork_134 : decode cX11_readWork 134 = .ok (.iadd, 1) := by decide +kernel
theorem dX11_readWork_135 : decode cX11_readWork 135 = .ok (.putfield 278, 3) := by decide +kernel
theorem dX11_readWork_138 : decode cX11_readWork 138 = .ok (.return_, 1) := by decide +kernel
theorem dX11_town_0 : decode cX11_town 0 = .ok (.aload_n 0, 1) := by decide +kernel
theorem dX11_town_1 : decode cX11_town 1 = .ok (.iconst 0, 1) := by decide +kernel
theorem dX11_town_2 : decode cX11_town 2 = .ok (.putfield 154, 3) := by decide +kernel
theorem dX11_town_5 : decode cX11_town 5 = .ok (.iload_n 1, 1) := by decide +kernel
theorem dX11_town_6 : decode cX11_town 6 = .ok (.ifCond .lt 11, 3) := by decide +kernel
theorem dX11_town_9 : decode cX11_town 9 = .ok (.iload_n 1, 1) := by decide +kernel
theorem dX11_town_10 : decode cX11_town 10 = .ok (.aload_n 0, 1) := by decide +kernel
theorem dX11_town_11 : decode cX11_town 11 = .ok (.getfield 168, 3) := by decide +kernel
theorem dX11_town_14 : decode cX11_town 14 = .ok (.if_icmp .le 9, 3) := by decide +kernel
theorem dX11_town_17 : decode cX11_town 17 = .ok (.aload_n 0, 1) := by decide +kernel
theorem dX11_town_18 : decode cX11_town 18 = .ok (.iconst 1, 1) := by decide +kernel
theorem dX11_town_19 : decode cX11_town 19 = .ok (.invokevirtual 287, 3) := by decide +kernel
theorem dX11_town_22 : decode cX11_town 22 = .ok (.ireturn, 1) := by decide +kernel
theorem dX11_town_23 : decode cX11_town 23 = .ok (.aload_n 0, 1) := by decide +kernel
theorem dX11_town_24 : decode cX11_town 24 = .ok (.iconst 0, 1) := by decide +kernel
theorem dX11_town_25 : decode cX11_town 25 = .ok (.putfield 168, 3) := by decide +kernel
theorem dX11_town_28 : decode cX11_town 28 = .ok (.aload_n 0, 1) := by decide +kernel
theorem dX11_town_29 : decode cX11_town 29 = .ok (.iload_n 1, 1) := by decide +kernel
theorem dX11_town_30 : decode cX11_town 30 = .ok (.putfield 171, 3) := by decide +kernel
theorem dX11_town_33 : decode cX11_town 33 = .ok (.aload_n 0, 1) := by decide +kernel
theorem dX11_town_34 : decode cX11_town 34 = .ok (.iconst 0, 1) := by decide +kernel
theorem dX11_town_35 : decode cX11_town 35 = .ok (.putfield 174, 3) := by decide +kernel
theorem dX11_town_38 : decode cX11_town 38 = .ok (.aload_n 0, 1) := by decide +kernel
theorem dX11_town_39 : decode cX11_town 39 = .ok (.iconst 0, 1) := by decide +kernel
theorem dX11_town_40 : decode cX11_town 40 = .ok (.putfield 206, 3) := by decide +kernel
theorem dX11_town_43 : decode cX11_town 43 = .ok (.aload_n 0, 1) := by decide +kernel
theorem dX11_town_44 : decode cX11_town 44 = .ok (.iconst (-1), 1) := by decide +kernel
theorem dX11_town_45 : decode cX11_town 45 = .ok (.putfield 101, 3) := by decide +kernel
theorem dX11_town_48 : decode cX11_town 48 = .ok (.aload_n 0, 1) := by decide +kernel
theorem dX11_town_49 : decode cX11_town 49 = .ok (.iconst 0, 1) := by decide +kernel
theorem dX11_town_50 : decode cX11_town 50 = .ok (.putfield 278, 3) := by decide +kernel
theorem dX11_town_53 : decode cX11_town 53 = .ok (.aload_n 0, 1) := by decide +kernel
theorem dX11_town_54 : decode cX11_town 54 = .ok (.invokevirtual 223, 3) := by decide +kernel
theorem dX11_town_57 : decode cX11_town 57 = .ok (.aload_n 0, 1) := by decide +kernel
theorem dX11_town_58 : decode cX11_town 58 = .ok (.getfield 206, 3) := by decide +kernel
theorem dX11_town_61 : decode cX11_town 61 = .ok (.ifCond .ne 17, 3) := by decide +kernel
theorem dX11_town_64 : decode cX11_town 64 = .ok (.aload_n 0, 1) := by decide +kernel
theorem dX11_town_65 : decode cX11_town 65 = .ok (.getfield 184, 3) := by decide +kernel
theorem dX11_town_68 : decode cX11_town 68 = .ok (.ifCond .eq 10, 3) := by decide +kernel
theorem dX11_town_71 : decode cX11_town 71 = .ok (.aload_n 0, 1) := by decide +kernel
theorem dX11_town_72 : decode cX11_town 72 = .ok (.invokevirtual 290, 3) := by decide +kernel
theorem dX11_town_75 : decode cX11_town 75 = .ok (.goto (-18), 3) := by decide +kernel
theorem dX11_town_78 : decode cX11_town 78 = .ok (.aload_n 0, 1) := by decide +kernel
theorem dX11_town_79 : decode cX11_town 79 = .ok (.getfield 206, 3) := by decide +kernel
theorem dX11_town_82 : decode cX11_town 82 = .ok (.ifCond .eq 26, 3) := by decide +kernel
theorem dX11_town_85 : decode cX11_town 85 = .ok (.aload_n 0, 1) := by decide +kernel
theorem dX11_town_86 : decode cX11_town 86 = .ok (.aload_n 0, 1) := by decide +kernel
theorem dX11_town_87 : decode cX11_town 87 = .ok (.getfield 209, 3) := by decide +kernel
theorem dX11_town_90 : decode cX11_town 90 = .ok (.putfield 101, 3) := by decide +kernel
theorem dX11_town_93 : decode cX11_town 93 = .ok (.aload_n 0, 1) := by decide +kernel
theorem dX11_town_94 : decode cX11_town 94 = .ok (.getfield 95, 3) := by decide +kernel
theorem dX11_town_97 : decode cX11_town 97 = .ok (.iconst 0, 1) := by decide +kernel
theorem dX11_town_98 : decode cX11_town 98 = .ok (.dup2, 1) := by decide +kernel
theorem dX11_town_99 : decode cX11_town 99 = .ok (.iaload, 1) := by decide +kernel
theorem dX11_town_100 : decode cX11_town 100 = .ok (.iconst 1, 1) := by decide +kernel
theorem dX11_town_101 : decode cX11_town 101 = .ok (.iadd, 1) := by decide +kernel
theorem dX11_town_102 : decode cX11_town 102 = .ok (.iastore, 1) := by decide +kernel
theorem dX11_town_103 : decode cX11_town 103 = .ok (.aload_n 0, 1) := by decide +kernel
theorem dX11_town_104 : decode cX11_town 104 = .ok (.getfield 206, 3) := by decide +kernel
theorem dX11_town_107 : decode cX11_town 107 = .ok (.ireturn, 1) := by decide +kernel
theorem dX11_town_108 : decode cX11_town 108 = .ok (.aload_n 0, 1) := by decide +kernel
theorem dX11_town_109 : decode cX11_town 109 = .ok (.aload_n 0, 1) := by decide +kernel
theorem dX11_town_110 : decode cX11_town 110 = .ok (.getfield 278, 3) := by decide +kernel
theorem dX11_town_113 : decode cX11_town 113 = .ok (.putfield 157, 3) := by decide +kernel
theorem dX11_town_116 : decode cX11_town 116 = .ok (.aload_n 0, 1) := by decide +kernel
theorem dX11_town_117 : decode cX11_town 117 = .ok (.iconst 0, 1) := by decide +kernel
theorem dX11_town_118 : decode cX11_town 118 = .ok (.putfield 293, 3) := by decide +kernel
theorem dX11_town_121 : decode cX11_town 121 = .ok (.iconst 0, 1) := by decide +kernel
theorem dX11_town_122 : decode cX11_town 122 = .ok (.istore_n 2, 1) := by decide +kernel
theorem dX11_town_123 : decode cX11_town 123 = .ok (.iload_n 2, 1) := by decide +kernel
theorem dX11_town_124 : decode cX11_town 124 = .ok (.aload_n 0, 1) := by decide +kernel
theorem dX11_town_125 : decode cX11_town 125 = .ok (.getfield 157, 3) := by decide +kernel
theorem dX11_town_128 : decode cX11_town 128 = .ok (.if_icmp .ge 14, 3) := by decide +kernel
theorem dX11_town_131 : decode cX11_town 131 = .ok (.aload_n 0, 1) := by decide +kernel
theorem dX11_town_132 : decode cX11_town 132 = .ok (.iload_n 2, 1) := by decide +kernel
theorem dX11_town_133 : decode cX11_town 133 = .ok (.invokevirtual 296, 3) := by decide +kernel
theorem dX11_town_136 : decode cX11_town 136 = .ok (.iinc 2 1, 3) := by decide +kernel
theorem dX11_town_139 : decode cX11_town 139 = .ok (.goto (-16), 3) := by decide +kernel
theorem dX11_town_142 : decode cX11_town 142 = .ok (.iconst 0, 1) := by decide +kernel
theorem dX11_town_143 : decode cX11_town 143 = .ok (.istore_n 2, 1) := by decide +kernel
theorem dX11_town_144 : decode cX11_town 144 = .ok (.iload_n 2, 1) := by decide +kernel
theorem dX11_town_145 : decode cX11_town 145 = .ok (.bipush 100, 2) := by decide +kernel
theorem dX11_town_147 : decode cX11_town 147 = .ok (.if_icmp .ge 16, 3) := by decide +kernel
theorem dX11_town_150 : decode cX11_town 150 = .ok (.aload_n 0, 1) := by decide +kernel
theorem dX11_town_151 : decode cX11_town 151 = .ok (.getfield 92, 3) := by decide +kernel
theorem dX11_town_154 : decode cX11_town 154 = .ok (.iload_n 2, 1) := by decide +kernel
theorem dX11_town_155 : decode cX11_town 155 = .ok (.iconst 1, 1) := by decide +kernel
theorem dX11_town_156 : decode cX11_town 156 = .ok (.iastore, 1) := by decide +kernel
theorem dX11_town_157 : decode cX11_town 157 = .ok (.iinc 2 1, 3) := by decide +kernel
theorem dX11_town_160 : decode cX11_town 160 = .ok (.goto (-16), 3) := by decide +kernel
theorem dX11_town_163 : decode cX11_town 163 = .ok (.aload_n 0, 1) := by decide +kernel
theorem dX11_town_164 : decode cX11_town 164 = .ok (.iconst 0, 1) := by decide +kernel
theorem dX11_town_165 : decode cX11_town 165 = .ok (.putfield 299, 3) := by decide +kernel
theorem dX11_town_168 : decode cX11_town 168 = .ok (.iconst 0, 1) := by decide +kernel
theorem dX11_town_169 : decode cX11_town 169 = .ok (.ireturn, 1) := by decide +kernel
theorem dX11_take_0 : decode cX11_take 0 = .ok (.bipush 6, 2) := by decide +kernel
theorem dX11_take_2 : decode cX11_take 2 = .ok (.iload_n 1, 1) := by decide +kernel
theorem dX11_take_3 : decode cX11_take 3 = .ok (.iadd, 1) := by decide +kernel
theorem dX11_take_4 : decode cX11_take 4 = .ok (.istore_n 2, 1) := by decide +kernel
theorem dX11_take_5 : decode cX11_take 5 = .ok (.aload_n 0, 1) := by decide +kernel
theorem dX11_take_6 : decode cX11_take 6 = .ok (.getfield 21, 3) := by decide +kernel
theorem dX11_take_9 : decode cX11_take 9 = .ok (.iload_n 1, 1) := by decide +kernel
theorem dX11_take_10 : decode cX11_take 10 = .ok (.aload_n 0, 1) := by decide +kernel
theorem dX11_take_11 : decode cX11_take 11 = .ok (.getfield 21, 3) := by decide +kernel
theorem dX11_take_14 : decode cX11_take 14 = .ok (.iload_n 2, 1) := by decide +kernel
theorem dX11_take_15 : decode cX11_take 15 = .ok (.iaload, 1) := by decide +kernel
theorem dX11_take_16 : decode cX11_take 16 = .ok (.iastore, 1) := by decide +kernel
theorem dX11_take_17 : decode cX11_take 17 = .ok (.aload_n 0, 1) := by decide +kernel
theorem dX11_take_18 : decode cX11_take 18 = .ok (.getfield 25, 3) := by decide +kernel
theorem dX11_take_21 : decode cX11_take 21 = .ok (.iload_n 1, 1) := by decide +kernel
theorem dX11_take_22 : decode cX11_take 22 = .ok (.aload_n 0, 1) := by decide +kernel
theorem dX11_take_23 : decode cX11_take 23 = .ok (.getfield 25, 3) := by decide +kernel
theorem dX11_take_26 : decode cX11_take 26 = .ok (.iload_n 2, 1) := by decide +kernel
theorem dX11_take_27 : decode cX11_take 27 = .ok (.iaload, 1) := by decide +kernel
theorem dX11_take_28 : decode cX11_take 28 = .ok (.iastore, 1) := by decide +kernel
theorem dX11_take_29 : decode cX11_take 29 = .ok (.aload_n 0, 1) := by decide +kernel
theorem dX11_take_30 : decode cX11_take 30 = .ok (.getfield 28, 3) := by decide +kernel
theorem dX11_take_33 : decode cX11_take 33 = .ok (.iload_n 1, 1) := by decide +kernel
theorem dX11_take_34 : decode cX11_take 34 = .ok (.aload_n 0, 1) := by decide +kernel
theorem dX11_take_35 : decode cX11_take 35 = .ok (.getfield 28, 3) := by decide +kernel
theorem dX11_take_38 : decode cX11_take 38 = .ok (.iload_n 2, 1) := by decide +kernel
theorem dX11_take_39 : decode cX11_take 39 = .ok (.iaload, 1) := by decide +kernel
theorem dX11_take_40 : decode cX11_take 40 = .ok (.iastore, 1) := by decide +kernel
theorem dX11_take_41 : decode cX11_take 41 = .ok (.aload_n 0, 1) := by decide +kernel
theorem dX11_take_42 : decode cX11_take 42 = .ok (.getfield 31, 3) := by decide +kernel
theorem dX11_take_45 : decode cX11_take 45 = .ok (.iload_n 1, 1) := by decide +kernel
theorem dX11_take_46 : decode cX11_take 46 = .ok (.aload_n 0, 1) := by decide +kernel
theorem dX11_take_47 : decode cX11_take 47 = .ok (.getfield 31, 3) := by decide +kernel
theorem dX11_take_50 : decode cX11_take 50 = .ok (.iload_n 2, 1) := by decide +kernel
theorem dX11_take_51 : decode cX11_take 51 = .ok (.iaload, 1) := by decide +kernel
theorem dX11_take_52 : decode cX11_take 52 = .ok (.iastore, 1) := by decide +kernel
theorem dX11_take_53 : decode cX11_take 53 = .ok (.aload_n 0, 1) := by decide +kernel
theorem dX11_take_54 : decode cX11_take 54 = .ok (.getfield 34, 3) := by decide +kernel
theorem dX11_take_57 : decode cX11_take 57 = .ok (.iload_n 1, 1) := by decide +kernel
theorem dX11_take_58 : decode cX11_take 58 = .ok (.aload_n 0, 1) := by decide +kernel
theorem dX11_take_59 : decode cX11_take 59 = .ok (.getfield 34, 3) := by decide +kernel
theorem dX11_take_62 : decode cX11_take 62 = .ok (.iload_n 2, 1) := by decide +kernel
theorem dX11_take_63 : decode cX11_take 63 = .ok (.iaload, 1) := by decide +kernel
theorem dX11_take_64 : decode cX11_take 64 = .ok (.iastore, 1) := by decide +kernel
theorem dX11_take_65 : decode cX11_take 65 = .ok (.aload_n 0, 1) := by decide +kernel
theorem dX11_take_66 : decode cX11_take 66 = .ok (.getfield 37, 3) := by decide +kernel
theorem dX11_take_69 : decode cX11_take 69 = .ok (.iload_n 1, 1) := by decide +kernel
theorem dX11_take_70 : decode cX11_take 70 = .ok (.aload_n 0, 1) := by decide +kernel
theorem dX11_take_71 : decode cX11_take 71 = .ok (.getfield 37, 3) := by decide +kernel
theorem dX11_take_74 : decode cX11_take 74 = .ok (.iload_n 2, 1) := by decide +kernel
theorem dX11_take_75 : decode cX11_take 75 = .ok (.iaload, 1) := by decide +kernel
theorem dX11_take_76 : decode cX11_take 76 = .ok (.iastore, 1) := by decide +kernel
theorem dX11_take_77 : decode cX11_take 77 = .ok (.aload_n 0, 1) := by decide +kernel
theorem dX11_take_78 : decode cX11_take 78 = .ok (.getfield 40, 3) := by decide +kernel
theorem dX11_take_81 : decode cX11_take 81 = .ok (.iload_n 1, 1) := by decide +kernel
theorem dX11_take_82 : decode cX11_take 82 = .ok (.aload_n 0, 1) := by decide +kernel
theorem dX11_take_83 : decode cX11_take 83 = .ok (.getfield 40, 3) := by decide +kernel
theorem dX11_take_86 : decode cX11_take 86 = .ok (.iload_n 2, 1) := by decide +kernel
theorem dX11_take_87 : decode cX11_take 87 = .ok (.iaload, 1) := by decide +kernel
theorem dX11_take_88 : decode cX11_take 88 = .ok (.iastore, 1) := by decide +kernel
theorem dX11_take_89 : decode cX11_take 89 = .ok (.iconst 0, 1) := by decide +kernel
theorem dX11_take_90 : decode cX11_take 90 = .ok (.istore_n 3, 1) := by decide +kernel
theorem dX11_take_91 : decode cX11_take 91 = .ok (.iload_n 3, 1) := by decide +kernel
theorem dX11_take_92 : decode cX11_take 92 = .ok (.bipush 20, 2) := by decide +kernel
theorem dX11_take_94 : decode cX11_take 94 = .ok (.if_icmp .ge 75, 3) := by decide +kernel
theorem dX11_take_97 : decode cX11_take 97 = .ok (.aload_n 0, 1) := by decide +kernel
theorem dX11_take_98 : decode cX11_take 98 = .ok (.getfield 43, 3) := by decide +kernel
theorem dX11_take_101 : decode cX11_take 101 = .ok (.bipush 20, 2) := by decide +kernel
theorem dX11_take_103 : decode cX11_take 103 = .ok (.iload_n 1, 1) := by decide +kernel
theorem dX11_take_104 : decode cX11_take 104 = .ok (.imul, 1) := by decide +kernel
theorem dX11_take_105 : decode cX11_take 105 = .ok (.iload_n 3, 1) := by decide +kernel
theorem dX11_take_106 : decode cX11_take 106 = .ok (.iadd, 1) := by decide +kernel
theorem dX11_take_107 : decode cX11_take 107 = .ok (.aload_n 0, 1) := by decide +kernel
theorem dX11_take_108 : decode cX11_take 108 = .ok (.getfield 43, 3) := by decide +kernel
theorem dX11_take_111 : decode cX11_take 111 = .ok (.bipush 20, 2) := by decide +kernel
theorem dX11_take_113 : decode cX11_take 113 = .ok (.iload_n 2, 1) := by decide +kernel
theorem dX11_take_114 : decode cX11_take 114 = .ok (.imul, 1) := by decide +kernel
theorem dX11_take_115 : decode cX11_take 115 = .ok (.iload_n 3, 1) := by decide +kernel
theorem dX11_take_116 : decode cX11_take 116 = .ok (.iadd, 1) := by decide +kernel
theorem dX11_take_117 : decode cX11_take 117 = .ok (.iaload, 1) := by decide +kernel
theorem dX11_take_118 : decode cX11_take 118 = .ok (.iastore, 1) := by decide +kernel
theorem dX11_take_119 : decode cX11_take 119 = .ok (.aload_n 0, 1) := by decide +kernel
theorem dX11_take_120 : decode cX11_take 120 = .ok (.getfield 46, 3) := by decide +kernel
theorem dX11_take_123 : decode cX11_take 123 = .ok (.bipush 20, 2) := by decide +kernel
theorem dX11_take_125 : decode cX11_take 125 = .ok (.iload_n 1, 1) := by decide +kernel
theorem dX11_take_126 : decode cX11_take 126 = .ok (.imul, 1) := by decide +kernel
theorem dX11_take_127 : decode cX11_take 127 = .ok (.iload_n 3, 1) := by decide +kernel
theorem dX11_take_128 : decode cX11_take 128 = .ok (.iadd, 1) := by decide +kernel
theorem dX11_take_129 : decode cX11_take 129 = .ok (.aload_n 0, 1) := by decide +kernel
theorem dX11_take_130 : decode cX11_take 130 = .ok (.getfield 46, 3) := by decide +kernel
theorem dX11_take_133 : decode cX11_take 133 = .ok (.bipush 20, 2) := by decide +kernel
theorem dX11_take_135 : decode cX11_take 135 = .ok (.iload_n 2, 1) := by decide +kernel
theorem dX11_take_136 : decode cX11_take 136 = .ok (.imul, 1) := by decide +kernel
theorem dX11_take_137 : decode cX11_take 137 = .ok (.iload_n 3, 1) := by decide +kernel
theorem dX11_take_138 : decode cX11_take 138 = .ok (.iadd, 1) := by decide +kernel
theorem dX11_take_139 : decode cX11_take 139 = .ok (.iaload, 1) := by decide +kernel
theorem dX11_take_140 : decode cX11_take 140 = .ok (.iastore, 1) := by decide +kernel
theorem dX11_take_141 : decode cX11_take 141 = .ok (.aload_n 0, 1) := by decide +kernel
theorem dX11_take_142 : decode cX11_take 142 = .ok (.getfield 49, 3) := by decide +kernel
theorem dX11_take_145 : decode cX11_take 145 = .ok (.bipush 20, 2) := by decide +kernel
theorem dX11_take_147 : decode cX11_take 147 = .ok (.iload_n 1, 1) := by decide +kernel
theorem dX11_take_148 : decode cX11_take 148 = .ok (.imul, 1) := by decide +kernel
theorem dX11_take_149 : decode cX11_take 149 = .ok (.iload_n 3, 1) := by decide +kernel
theorem dX11_take_150 : decode cX11_take 150 = .ok (.iadd, 1) := by decide +kernel
theorem dX11_take_151 : decode cX11_take 151 = .ok (.aload_n 0, 1) := by decide +kernel
theorem dX11_take_152 : decode cX11_take 152 = .ok (.getfield 49, 3) := by decide +kernel
theorem dX11_take_155 : decode cX11_take 155 = .ok (.bipush 20, 2) := by decide +kernel
theorem dX11_take_157 : decode cX11_take 157 = .ok (.iload_n 2, 1) := by decide +kernel
theorem dX11_take_158 : decode cX11_take 158 = .ok (.imul, 1) := by decide +kernel
theorem dX11_take_159 : decode cX11_take 159 = .ok (.iload_n 3, 1) := by decide +kernel
theorem dX11_take_160 : decode cX11_take 160 = .ok (.iadd, 1) := by decide +kernel
theorem dX11_take_161 : decode cX11_take 161 = .ok (.iaload, 1) := by decide +kernel
theorem dX11_take_162 : decode cX11_take 162 = .ok (.iastore, 1) := by decide +kernel
theorem dX11_take_163 : decode cX11_take 163 = .ok (.iinc 3 1, 3) := by decide +kernel
theorem dX11_take_166 : decode cX11_take 166 = .ok (.goto (-75), 3) := by decide +kernel
theorem dX11_take_169 : decode cX11_take 169 = .ok (.iconst 0, 1) := by decide +kernel
theorem dX11_take_170 : decode cX11_take 170 = .ok (.istore_n 3, 1) := by decide +kernel
theorem dX11_take_171 : decode cX11_take 171 = .ok (.iload_n 3, 1) := by decide +kernel
theorem dX11_take_172 : decode cX11_take 172 = .ok (.bipush 12, 2) := by decide +kernel
theorem dX11_take_174 : decode cX11_take 174 = .ok (.if_icmp .ge 75, 3) := by decide +kernel
theorem dX11_take_177 : decode cX11_take 177 = .ok (.aload_n 0, 1) := by decide +kernel
theorem dX11_take_178 : decode cX11_take 178 = .ok (.getfield 52, 3) := by decide +kernel
theorem dX11_take_181 : decode cX11_take 181 = .ok (.bipush 12, 2) := by decide +kernel
theorem dX11_take_183 : decode cX11_take 183 = .ok (.iload_n 1, 1) := by decide +kernel
theorem dX11_take_184 : decode cX11_take 184 = .ok (.imul, 1) := by decide +kernel
theorem dX11_take_185 : decode cX11_take 185 = .ok (.iload_n 3, 1) := by decide +kernel
theorem dX11_take_186 : decode cX11_take 186 = .ok (.iadd, 1) := by decide +kernel
theorem dX11_take_187 : decode cX11_take 187 = .ok (.aload_n 0, 1) := by decide +kernel
theorem dX11_take_188 : decode cX11_take 188 = .ok (.getfield 52, 3) := by decide +kernel
theorem dX11_take_191 : decode cX11_take 191 = .ok (.bipush 12, 2) := by decide +kernel
theorem dX11_take_193 : decode cX11_take 193 = .ok (.iload_n 2, 1) := by decide +kernel
theorem dX11_take_194 : decode cX11_take 194 = .ok (.imul, 1) := by decide +kernel
theorem dX11_take_195 : decode cX11_take 195 = .ok (.iload_n 3, 1) := by decide +kernel
theorem dX11_take_196 : decode cX11_take 196 = .ok (.iadd, 1) := by decide +kernel
theorem dX11_take_197 : decode cX11_take 197 = .ok (.iaload, 1) := by decide +kernel
theorem dX11_take_198 : decode cX11_take 198 = .ok (.iastore, 1) := by decide +kernel
theorem dX11_take_199 : decode cX11_take 199 = .ok (.aload_n 0, 1) := by decide +kernel
theorem dX11_take_200 : decode cX11_take 200 = .ok (.getfield 55, 3) := by decide +kernel
theorem dX11_take_203 : decode cX11_take 203 = .ok (.bipush 12, 2) := by decide +kernel
theorem dX11_take_205 : decode cX11_take 205 = .ok (.iload_n 1, 1) := by decide +kernel
theorem dX11_take_206 : decode cX11_take 206 = .ok (.imul, 1) := by decide +kernel
theorem dX11_take_207 : decode cX11_take 207 = .ok (.iload_n 3, 1) := by decide +kernel
theorem dX11_take_208 : decode cX11_take 208 = .ok (.iadd, 1) := by decide +kernel
theorem dX11_take_209 : decode cX11_take 209 = .ok (.aload_n 0, 1) := by decide +kernel
theorem dX11_take_210 : decode cX11_take 210 = .ok (.getfield 55, 3) := by decide +kernel
theorem dX11_take_213 : decode cX11_take 213 = .ok (.bipush 12, 2) := by decide +kernel
theorem dX11_take_215 : decode cX11_take 215 = .ok (.iload_n 2, 1) := by decide +kernel
theorem dX11_take_216 : decode cX11_take 216 = .ok (.imul, 1) := by decide +kernel
theorem dX11_take_217 : decode cX11_take 217 = .ok (.iload_n 3, 1) := by decide +kernel
theorem dX11_take_218 : decode cX11_take 218 = .ok (.iadd, 1) := by decide +kernel
theorem dX11_take_219 : decode cX11_take 219 = .ok (.iaload, 1) := by decide +kernel
theorem dX11_take_220 : decode cX11_take 220 = .ok (.iastore, 1) := by decide +kernel
theorem dX11_take_221 : decode cX11_take 221 = .ok (.aload_n 0, 1) := by decide +kernel
theorem dX11_take_222 : decode cX11_take 222 = .ok (.getfield 58, 3) := by decide +kernel
theorem dX11_take_225 : decode cX11_take 225 = .ok (.bipush 12, 2) := by decide +kernel
theorem dX11_take_227 : decode cX11_take 227 = .ok (.iload_n 1, 1) := by decide +kernel
theorem dX11_take_228 : decode cX11_take 228 = .ok (.imul, 1) := by decide +kernel
theorem dX11_take_229 : decode cX11_take 229 = .ok (.iload_n 3, 1) := by decide +kernel
theorem dX11_take_230 : decode cX11_take 230 = .ok (.iadd, 1) := by decide +kernel
theorem dX11_take_231 : decode cX11_take 231 = .ok (.aload_n 0, 1) := by decide +kernel
theorem dX11_take_232 : decode cX11_take 232 = .ok (.getfield 58, 3) := by decide +kernel
theorem dX11_take_235 : decode cX11_take 235 = .ok (.bipush 12, 2) := by decide +kernel
theorem dX11_take_237 : decode cX11_take 237 = .ok (.iload_n 2, 1) := by decide +kernel
theorem dX11_take_238 : decode cX11_take 238 = .ok (.imul, 1) := by decide +kernel
theorem dX11_take_239 : decode cX11_take 239 = .ok (.iload_n 3, 1) := by decide +kernel
theorem dX11_take_240 : decode cX11_take 240 = .ok (.iadd, 1) := by decide +kernel
theorem dX11_take_241 : decode cX11_take 241 = .ok (.iaload, 1) := by decide +kernel
theorem dX11_take_242 : decode cX11_take 242 = .ok (.iastore, 1) := by decide +kernel
theorem dX11_take_243 : decode cX11_take 243 = .ok (.iinc 3 1, 3) := by decide +kernel
theorem dX11_take_246 : decode cX11_take 246 = .ok (.goto (-75), 3) := by decide +kernel
theorem dX11_take_249 : decode cX11_take 249 = .ok (.aload_n 0, 1) := by decide +kernel
theorem dX11_take_250 : decode cX11_take 250 = .ok (.getfield 80, 3) := by decide +kernel
theorem dX11_take_253 : decode cX11_take 253 = .ok (.iload_n 1, 1) := by decide +kernel
theorem dX11_take_254 : decode cX11_take 254 = .ok (.iconst 0, 1) := by decide +kernel
theorem dX11_take_255 : decode cX11_take 255 = .ok (.iastore, 1) := by decide +kernel
theorem dX11_take_256 : decode cX11_take 256 = .ok (.aload_n 0, 1) := by decide +kernel
theorem dX11_take_257 : decode cX11_take 257 = .ok (.getfield 86, 3) := by decide +kernel
theorem dX11_take_260 : decode cX11_take 260 = .ok (.iload_n 1, 1) := by decide +kernel
theorem dX11_take_261 : decode cX11_take 261 = .ok (.iconst 0, 1) := by decide +kernel
theorem dX11_take_262 : decode cX11_take 262 = .ok (.iastore, 1) := by decide +kernel
theorem dX11_take_263 : decode cX11_take 263 = .ok (.aload_n 0, 1) := by decide +kernel
theorem dX11_take_264 : decode cX11_take 264 = .ok (.getfield 61, 3) := by decide +kernel
theorem dX11_take_267 : decode cX11_take 267 = .ok (.iload_n 1, 1) := by decide +kernel
theorem dX11_take_268 : decode cX11_take 268 = .ok (.iconst 0, 1) := by decide +kernel
theorem dX11_take_269 : decode cX11_take 269 = .ok (.iastore, 1) := by decide +kernel
theorem dX11_take_270 : decode cX11_take 270 = .ok (.aload_n 0, 1) := by decide +kernel
theorem dX11_take_271 : decode cX11_take 271 = .ok (.getfield 21, 3) := by decide +kernel
theorem dX11_take_274 : decode cX11_take 274 = .ok (.iload_n 1, 1) := by decide +kernel
theorem dX11_take_275 : decode cX11_take 275 = .ok (.iaload, 1) := by decide +kernel
theorem dX11_take_276 : decode cX11_take 276 = .ok (.ifCond .ne 14, 3) := by decide +kernel
theorem dX11_take_279 : decode cX11_take 279 = .ok (.aload_n 0, 1) := by decide +kernel
theorem dX11_take_280 : decode cX11_take 280 = .ok (.iload_n 1, 1) := by decide +kernel
theorem dX11_take_281 : decode cX11_take 281 = .ok (.iconst 0, 1) := by decide +kernel
theorem dX11_take_282 : decode cX11_take 282 = .ok (.iconst 0, 1) := by decide +kernel
theorem dX11_take_283 : decode cX11_take 283 = .ok (.iconst 0, 1) := by decide +kernel
theorem dX11_take_284 : decode cX11_take 284 = .ok (.invokevirtual 303, 3) := by decide +kernel
theorem dX11_take_287 : decode cX11_take 287 = .ok (.goto 51, 3) := by decide +kernel
theorem dX11_take_290 : decode cX11_take 290 = .ok (.aload_n 0, 1) := by decide +kernel
theorem dX11_take_291 : decode cX11_take 291 = .ok (.getfield 21, 3) := by decide +kernel
theorem dX11_take_294 : decode cX11_take 294 = .ok (.iload_n 1, 1) := by decide +kernel
theorem dX11_take_295 : decode cX11_take 295 = .ok (.iaload, 1) := by decide +kernel
theorem dX11_take_296 : decode cX11_take 296 = .ok (.iconst 1, 1) := by decide +kernel
theorem dX11_take_297 : decode cX11_take 297 = .ok (.if_icmp .ne 32, 3) := by decide +kernel
theorem dX11_take_300 : decode cX11_take 300 = .ok (.iconst 0, 1) := by decide +kernel
theorem dX11_take_301 : decode cX11_take 301 = .ok (.istore_n 3, 1) := by decide +kernel
theorem dX11_take_302 : decode cX11_take 302 = .ok (.iload_n 3, 1) := by decide +kernel
theorem dX11_take_303 : decode cX11_take 303 = .ok (.iconst 1, 1) := by decide +kernel
theorem dX11_take_304 : decode cX11_take 304 = .ok (.aload_n 0, 1) := by decide +kernel
theorem dX11_take_305 : decode cX11_take 305 = .ok (.getfield 34, 3) := by decide +kernel
theorem dX11_take_308 : decode cX11_take 308 = .ok (.iload_n 1, 1) := by decide +kernel
theorem dX11_take_309 : decode cX11_take 309 = .ok (.iaload, 1) := by decide +kernel
theorem dX11_take_310 : decode cX11_take 310 = .ok (.ishl, 1) := by decide +kernel
theorem dX11_take_311 : decode cX11_take 311 = .ok (.if_icmp .ge 15, 3) := by decide +kernel
theorem dX11_take_314 : decode cX11_take 314 = .ok (.aload_n 0, 1) := by decide +kernel
theorem dX11_take_315 : decode cX11_take 315 = .ok (.iload_n 1, 1) := by decide +kernel
theorem dX11_take_316 : decode cX11_take 316 = .ok (.iload_n 3, 1) := by decide +kernel
theorem dX11_take_317 : decode cX11_take 317 = .ok (.invokevirtual 307, 3) := by decide +kernel
theorem dX11_take_320 : decode cX11_take 320 = .ok (.iinc 3 1, 3) := by decide +kernel
theorem dX11_take_323 : decode cX11_take 323 = .ok (.goto (-21), 3) := by decide +kernel
theorem dX11_take_326 : decode cX11_take 326 = .ok (.goto 12, 3) := by decide +kernel
theorem dX11_take_329 : decode cX11_take 329 = .ok (.aload_n 0, 1) := by decide +kernel
theorem dX11_take_330 : decode cX11_take 330 = .ok (.iload_n 1, 1) := by decide +kernel
theorem dX11_take_331 : decode cX11_take 331 = .ok (.iconst 0, 1) := by decide +kernel
theorem dX11_take_332 : decode cX11_take 332 = .ok (.iconst 0, 1) := by decide +kernel
theorem dX11_take_333 : decode cX11_take 333 = .ok (.iconst 0, 1) := by decide +kernel
theorem dX11_take_334 : decode cX11_take 334 = .ok (.iconst 0, 1) := by decide +kernel
theorem dX11_take_335 : decode cX11_take 335 = .ok (.invokevirtual 310, 3) := by decide +kernel
theorem dX11_take_338 : decode cX11_take 338 = .ok (.aload_n 0, 1) := by decide +kernel
theorem dX11_take_339 : decode cX11_take 339 = .ok (.iload_n 1, 1) := by decide +kernel
theorem dX11_take_340 : decode cX11_take 340 = .ok (.invokevirtual 314, 3) := by decide +kernel
theorem dX11_take_343 : decode cX11_take 343 = .ok (.aload_n 0, 1) := by decide +kernel
theorem dX11_take_344 : decode cX11_take 344 = .ok (.iload_n 1, 1) := by decide +kernel
theorem dX11_take_345 : decode cX11_take 345 = .ok (.invokevirtual 317, 3) := by decide +kernel
theorem dX11_take_348 : decode cX11_take 348 = .ok (.return_, 1) := by decide +kernel
theorem dX11_addWay_0 : decode cX11_addWay 0 = .ok (.aload_n 0, 1) := by decide +kernel
theorem dX11_addWay_1 : decode cX11_addWay 1 = .ok (.getfield 64, 3) := by decide +kernel
theorem dX11_addWay_4 : decode cX11_addWay 4 = .ok (.sipush 2000, 3) := by decide +kernel
theorem dX11_addWay_7 : decode cX11_addWay 7 = .ok (.iload_n 1, 1) := by decide +kernel
theorem dX11_addWay_8 : decode cX11_addWay 8 = .ok (.imul, 1) := by decide +kernel
theorem dX11_addWay_9 : decode cX11_addWay 9 = .ok (.aload_n 0, 1) := by decide +kernel
theorem dX11_addWay_10 : decode cX11_addWay 10 = .ok (.getfield 61, 3) := by decide +kernel
theorem dX11_addWay_13 : decode cX11_addWay 13 = .ok (.iload_n 1, 1) := by decide +kernel
theorem dX11_addWay_14 : decode cX11_addWay 14 = .ok (.iaload, 1) := by decide +kernel
theorem dX11_addWay_15 : decode cX11_addWay 15 = .ok (.iadd, 1) := by decide +kernel
theorem dX11_addWay_16 : decode cX11_addWay 16 = .ok (.iload_n 2, 1) := by decide +kernel
theorem dX11_addWay_17 : decode cX11_addWay 17 = .ok (.iastore, 1) := by decide +kernel
theorem dX11_addWay_18 : decode cX11_addWay 18 = .ok (.aload_n 0, 1) := by decide +kernel
theorem dX11_addWay_19 : decode cX11_addWay 19 = .ok (.getfield 67, 3) := by decide +kernel
theorem dX11_addWay_22 : decode cX11_addWay 22 = .ok (.sipush 2000, 3) := by decide +kernel
theorem dX11_addWay_25 : decode cX11_addWay 25 = .ok (.iload_n 1, 1) := by decide +kernel
theorem dX11_addWay_26 : decode cX11_addWay 26 = .ok (.imul, 1) := by decide +kernel
theorem dX11_addWay_27 : decode cX11_addWay 27 = .ok (.aload_n 0, 1) := by decide +kernel
theorem dX11_addWay_28 : decode cX11_addWay 28 = .ok (.getfield 61, 3) := by decide +kernel
theorem dX11_addWay_31 : decode cX11_addWay 31 = .ok (.iload_n 1, 1) := by decide +kernel
theorem dX11_addWay_32 : decode cX11_addWay 32 = .ok (.iaload, 1) := by decide +kernel
theorem dX11_addWay_33 : decode cX11_addWay 33 = .ok (.iadd, 1) := by decide +kernel
theorem dX11_addWay_34 : decode cX11_addWay 34 = .ok (.iload_n 3, 1) := by decide +kernel
theorem dX11_addWay_35 : decode cX11_addWay 35 = .ok (.iastore, 1) := by decide +kernel
theorem dX11_addWay_36 : decode cX11_addWay 36 = .ok (.aload_n 0, 1) := by decide +kernel
theorem dX11_addWay_37 : decode cX11_addWay 37 = .ok (.getfield 61, 3) := by decide +kernel
theorem dX11_addWay_40 : decode cX11_addWay 40 = .ok (.iload_n 1, 1) := by decide +kernel
theorem dX11_addWay_41 : decode cX11_addWay 41 = .ok (.dup2, 1) := by decide +kernel
theorem dX11_addWay_42 : decode cX11_addWay 42 = .ok (.iaload, 1) := by decide +kernel
theorem dX11_addWay_43 : decode cX11_addWay 43 = .ok (.iconst 1, 1) := by decide +kernel
theorem dX11_addWay_44 : decode cX11_addWay 44 = .ok (.iadd, 1) := by decide +kernel
theorem dX11_addWay_45 : decode cX11_addWay 45 = .ok (.iastore, 1) := by decide +kernel
theorem dX11_addWay_46 : decode cX11_addWay 46 = .ok (.return_, 1) := by decide +kernel
theorem dX11_walk_0 : decode cX11_walk 0 = .ok (.iload_n 2, 1) := by decide +kernel
theorem dX11_walk_1 : decode cX11_walk 1 = .ok (.aload_n 0, 1) := by decide +kernel
theorem dX11_walk_2 : decode cX11_walk 2 = .ok (.getfield 25, 3) := by decide +kernel
theorem dX11_walk_5 : decode cX11_walk 5 = .ok (.iload_n 1, 1) := by decide +kernel
theorem dX11_walk_6 : decode cX11_walk 6 = .ok (.iaload, 1) := by decide +kernel
theorem dX11_walk_7 : decode cX11_walk 7 = .ok (.iconst 1, 1) := by decide +kernel
theorem dX11_walk_8 : decode cX11_walk 8 = .ok (.isub, 1) := by decide +kernel
theorem dX11_walk_9 : decode cX11_walk 9 = .ok (.if_icmp .ne 12, 3) := by decide +kernel
theorem dX11_walk_12 : decode cX11_walk 12 = .ok (.aload_n 0, 1) := by decide +kernel
theorem dX11_walk_13 : decode cX11_walk 13 = .ok (.iload_n 1, 1) := by decide +kernel
theorem dX11_walk_14 : decode cX11_walk 14 = .ok (.iload_n 3, 1) := by decide +kernel
theorem dX11_walk_15 : decode cX11_walk 15 = .ok (.iload 4, 2) := by decide +kernel
theorem dX11_walk_17 : decode cX11_walk 17 = .ok (.invokevirtual 320, 3) := by decide +kernel
theorem dX11_walk_20 : decode cX11_walk 20 = .ok (.return_, 1) := by decide +kernel
theorem dX11_walk_21 : decode cX11_walk 21 = .ok (.iconst 0, 1) := by decide +kernel
theorem dX11_walk_22 : decode cX11_walk 22 = .ok (.istore 5, 2) := by decide +kernel
theorem dX11_walk_24 : decode cX11_walk 24 = .ok (.iload 5, 2) := by decide +kernel
theorem dX11_walk_26 : decode cX11_walk 26 = .ok (.aload_n 0, 1) := by decide +kernel
theorem dX11_walk_27 : decode cX11_walk 27 = .ok (.getfield 34, 3) := by decide +kernel
theorem dX11_walk_30 : decode cX11_walk 30 = .ok (.iload_n 1, 1) := by decide +kernel
theorem dX11_walk_31 : decode cX11_walk 31 = .ok (.iaload, 1) := by decide +kernel
theorem dX11_walk_32 : decode cX11_walk 32 = .ok (.if_icmp .ge 63, 3) := by decide +kernel
theorem dX11_walk_35 : decode cX11_walk 35 = .ok (.aload_n 0, 1) := by decide +kernel
theorem dX11_walk_36 : decode cX11_walk 36 = .ok (.getfield 43, 3) := by decide +kernel
theorem dX11_walk_39 : decode cX11_walk 39 = .ok (.bipush 20, 2) := by decide +kernel
theorem dX11_walk_41 : decode cX11_walk 41 = .ok (.iload_n 1, 1) := by decide +kernel
theorem dX11_walk_42 : decode cX11_walk 42 = .ok (.imul, 1) := by decide +kernel
theorem dX11_walk_43 : decode cX11_walk 43 = .ok (.iload 5, 2) := by decide +kernel
theorem dX11_walk_45 : decode cX11_walk 45 = .ok (.iadd, 1) := by decide +kernel
theorem dX11_walk_46 : decode cX11_walk 46 = .ok (.iaload, 1) := by decide +kernel
theorem dX11_walk_47 : decode cX11_walk 47 = .ok (.iload_n 2, 1) := by decide +kernel
theorem dX11_walk_48 : decode cX11_walk 48 = .ok (.if_icmp .ne 41, 3) := by decide +kernel
theorem dX11_walk_51 : decode cX11_walk 51 = .ok (.aload_n 0, 1) := by decide +kernel
theorem dX11_walk_52 : decode cX11_walk 52 = .ok (.iload_n 1, 1) := by decide +kernel
theorem dX11_walk_53 : decode cX11_walk 53 = .ok (.aload_n 0, 1) := by decide +kernel
theorem dX11_walk_54 : decode cX11_walk 54 = .ok (.getfield 46, 3) := by decide +kernel
theorem dX11_walk_57 : decode cX11_walk 57 = .ok (.bipush 20, 2) := by decide +kernel
theorem dX11_walk_59 : decode cX11_walk 59 = .ok (.iload_n 1, 1) := by decide +kernel
theorem dX11_walk_60 : decode cX11_walk 60 = .ok (.imul, 1) := by decide +kernel
theorem dX11_walk_61 : decode cX11_walk 61 = .ok (.iload 5, 2) := by decide +kernel
theorem dX11_walk_63 : decode cX11_walk 63 = .ok (.iadd, 1) := by decide +kernel
theorem dX11_walk_64 : decode cX11_walk 64 = .ok (.iaload, 1) := by decide +kernel
theorem dX11_walk_65 : decode cX11_walk 65 = .ok (.iload_n 3, 1) := by decide +kernel
theorem dX11_walk_66 : decode cX11_walk 66 = .ok (.aload_n 0, 1) := by decide +kernel
theorem dX11_walk_67 : decode cX11_walk 67 = .ok (.getfield 49, 3) := by decide +kernel
theorem dX11_walk_70 : decode cX11_walk 70 = .ok (.bipush 20, 2) := by decide +kernel
theorem dX11_walk_72 : decode cX11_walk 72 = .ok (.iload_n 1, 1) := by decide +kernel
theorem dX11_walk_73 : decode cX11_walk 73 = .ok (.imul, 1) := by decide +kernel
theorem dX11_walk_74 : decode cX11_walk 74 = .ok (.iload 5, 2) := by decide +kernel
theorem dX11_walk_76 : decode cX11_walk 76 = .ok (.iadd, 1) := by decide +kernel
theorem dX11_walk_77 : decode cX11_walk 77 = .ok (.iaload, 1) := by decide +kernel
theorem dX11_walk_78 : decode cX11_walk 78 = .ok (.iadd, 1) := by decide +kernel
theorem dX11_walk_79 : decode cX11_walk 79 = .ok (.iload 4, 2) := by decide +kernel
theorem dX11_walk_81 : decode cX11_walk 81 = .ok (.iconst 1, 1) := by decide +kernel
theorem dX11_walk_82 : decode cX11_walk 82 = .ok (.iload 5, 2) := by decide +kernel
theorem dX11_walk_84 : decode cX11_walk 84 = .ok (.ishl, 1) := by decide +kernel
theorem dX11_walk_85 : decode cX11_walk 85 = .ok (.ior, 1) := by decide +kernel
theorem dX11_walk_86 : decode cX11_walk 86 = .ok (.invokevirtual 303, 3) := by decide +kernel
theorem dX11_walk_89 : decode cX11_walk 89 = .ok (.iinc 5 1, 3) := by decide +kernel
theorem dX11_walk_92 : decode cX11_walk 92 = .ok (.goto (-68), 3) := by decide +kernel
theorem dX11_walk_95 : decode cX11_walk 95 = .ok (.return_, 1) := by decide +kernel
theorem dX11_bitsOf_0 : decode cX11_bitsOf 0 = .ok (.iconst 0, 1) := by decide +kernel
theorem dX11_bitsOf_1 : decode cX11_bitsOf 1 = .ok (.istore_n 1, 1) := by decide +kernel
theorem dX11_bitsOf_2 : decode cX11_bitsOf 2 = .ok (.iload_n 0, 1) := by decide +kernel
theorem dX11_bitsOf_3 : decode cX11_bitsOf 3 = .ok (.istore_n 2, 1) := by decide +kernel
theorem dX11_bitsOf_4 : decode cX11_bitsOf 4 = .ok (.iload_n 2, 1) := by decide +kernel
theorem dX11_bitsOf_5 : decode cX11_bitsOf 5 = .ok (.ifCond .eq 15, 3) := by decide +kernel
theorem dX11_bitsOf_8 : decode cX11_bitsOf 8 = .ok (.iinc 1 1, 3) := by decide +kernel
theorem dX11_bitsOf_11 : decode cX11_bitsOf 11 = .ok (.iload_n 2, 1) := by decide +kernel
theorem dX11_bitsOf_12 : decode cX11_bitsOf 12 = .ok (.iload_n 2, 1) := by decide +kernel
theorem dX11_bitsOf_13 : decode cX11_bitsOf 13 = .ok (.iconst 1, 1) := by decide +kernel
theorem dX11_bitsOf_14 : decode cX11_bitsOf 14 = .ok (.isub, 1) := by decide +kernel
theorem dX11_bitsOf_15 : decode cX11_bitsOf 15 = .ok (.iand, 1) := by decide +kernel
theorem dX11_bitsOf_16 : decode cX11_bitsOf 16 = .ok (.istore_n 2, 1) := by decide +kernel
theorem dX11_bitsOf_17 : decode cX11_bitsOf 17 = .ok (.goto (-13), 3) := by decide +kernel
theorem dX11_bitsOf_20 : decode cX11_bitsOf 20 = .ok (.iload_n 1, 1) := by decide +kernel
theorem dX11_bitsOf_21 : decode cX11_bitsOf 21 = .ok (.ireturn, 1) := by decide +kernel
theorem dX11_choose_0 : decode cX11_choose 0 = .ok (.iload_n 2, 1) := by decide +kernel
theorem dX11_choose_1 : decode cX11_choose 1 = .ok (.invokestatic 324, 3) := by decide +kernel
theorem dX11_choose_4 : decode cX11_choose 4 = .ok (.aload_n 0, 1) := by decide +kernel
theorem dX11_choose_5 : decode cX11_choose 5 = .ok (.getfield 25, 3) := by decide +kernel
theorem dX11_choose_8 : decode cX11_choose 8 = .ok (.iload_n 1, 1) := by decide +kernel
theorem dX11_choose_9 : decode cX11_choose 9 = .ok (.iaload, 1) := by decide +kernel
theorem dX11_choose_10 : decode cX11_choose 10 = .ok (.if_icmp .eq 4, 3) := by decide +kernel
theorem dX11_choose_13 : decode cX11_choose 13 = .ok (.return_, 1) := by decide +kernel
theorem dX11_choose_14 : decode cX11_choose 14 = .ok (.bipush 12, 2) := by decide +kernel
theorem dX11_choose_16 : decode cX11_choose 16 = .ok (.iload_n 1, 1) := by decide +kernel
theorem dX11_choose_17 : decode cX11_choose 17 = .ok (.imul, 1) := by decide +kernel
theorem dX11_choose_18 : decode cX11_choose 18 = .ok (.istore_n 3, 1) := by decide +kernel
theorem dX11_choose_19 : decode cX11_choose 19 = .ok (.iload_n 3, 1) := by decide +kernel
theorem dX11_choose_20 : decode cX11_choose 20 = .ok (.bipush 12, 2) := by decide +kernel
theorem dX11_choose_22 : decode cX11_choose 22 = .ok (.iload_n 1, 1) := by decide +kernel
theorem dX11_choose_23 : decode cX11_choose 23 = .ok (.imul, 1) := by decide +kernel
theorem dX11_choose_24 : decode cX11_choose 24 = .ok (.aload_n 0, 1) := by decide +kernel
theorem dX11_choose_25 : decode cX11_choose 25 = .ok (.getfield 40, 3) := by decide +kernel
theorem dX11_choose_28 : decode cX11_choose 28 = .ok (.iload_n 1, 1) := by decide +kernel
theorem dX11_choose_29 : decode cX11_choose 29 = .ok (.iaload, 1) := by decide +kernel
theorem dX11_choose_30 : decode cX11_choose 30 = .ok (.iadd, 1) := by decide +kernel
theorem dX11_choose_31 : decode cX11_choose 31 = .ok (.if_icmp .ge 79, 3) := by decide +kernel
theorem dX11_choose_34 : decode cX11_choose 34 = .ok (.iload_n 2, 1) := by decide +kernel
theorem dX11_choose_35 : decode cX11_choose 35 = .ok (.aload_n 0, 1) := by decide +kernel
theorem dX11_choose_36 : decode cX11_choose 36 = .ok (.getfield 55, 3) := by decide +kernel
theorem dX11_choose_39 : decode cX11_choose 39 = .ok (.iload_n 3, 1) := by decide +kernel
theorem dX11_choose_40 : decode cX11_choose 40 = .ok (.iaload, 1) := by decide +kernel
theorem dX11_choose_41 : decode cX11_choose 41 = .ok (.ishr, 1) := by decide +kernel
theorem dX11_choose_42 : decode cX11_choose 42 = .ok (.iconst 1, 1) := by decide +kernel
theorem dX11_choose_43 : decode cX11_choose 43 = .ok (.iand, 1) := by decide +kernel
theorem dX11_choose_44 : decode cX11_choose 44 = .ok (.iconst 1, 1) := by decide +kernel
theorem dX11_choose_45 : decode cX11_choose 45 = .ok (.if_icmp .ne 7, 3) := by decide +kernel
theorem dX11_choose_48 : decode cX11_choose 48 = .ok (.iconst 1, 1) := by decide +kernel
theorem dX11_choose_49 : decode cX11_choose 49 = .ok (.goto 4, 3) := by decide +kernel
theorem dX11_choose_52 : decode cX11_choose 52 = .ok (.iconst 0, 1) := by decide +kernel
theorem dX11_choose_53 : decode cX11_choose 53 = .ok (.istore 4, 2) := by decide +kernel
theorem dX11_choose_55 : decode cX11_choose 55 = .ok (.iload_n 2, 1) := by decide +kernel
theorem dX11_choose_56 : decode cX11_choose 56 = .ok (.aload_n 0, 1) := by decide +kernel
theorem dX11_choose_57 : decode cX11_choose 57 = .ok (.getfield 58, 3) := by decide +kernel
theorem dX11_choose_60 : decode cX11_choose 60 = .ok (.iload_n 3, 1) := by decide +kernel
theorem dX11_choose_61 : decode cX11_choose 61 = .ok (.iaload, 1) := by decide +kernel
theorem dX11_choose_62 : decode cX11_choose 62 = .ok (.ishr, 1) := by decide +kernel
theorem dX11_choose_63 : decode cX11_choose 63 = .ok (.iconst 1, 1) := by decide +kernel
theorem dX11_choose_64 : decode cX11_choose 64 = .ok (.iand, 1) := by decide +kernel
theorem dX11_choose_65 : decode cX11_choose 65 = .ok (.iconst 1, 1) := by decide +kernel
theorem dX11_choose_66 : decode cX11_choose 66 = .ok (.if_icmp .ne 7, 3) := by decide +kernel
theorem dX11_choose_69 : decode cX11_choose 69 = .ok (.iconst 1, 1) := by decide +kernel
theorem dX11_choose_70 : decode cX11_choose 70 = .ok (.goto 4, 3) := by decide +kernel
theorem dX11_choose_73 : decode cX11_choose 73 = .ok (.iconst 0, 1) := by decide +kernel
theorem dX11_choose_74 : decode cX11_choose 74 = .ok (.istore 5, 2) := by decide +kernel
theorem dX11_choose_76 : decode cX11_choose 76 = .ok (.iload 4, 2) := by decide +kernel
theorem dX11_choose_78 : decode cX11_choose 78 = .ok (.ifCond .eq 26, 3) := by decide +kernel
theorem dX11_choose_81 : decode cX11_choose 81 = .ok (.aload_n 0, 1) := by decide +kernel
theorem dX11_choose_82 : decode cX11_choose 82 = .ok (.getfield 52, 3) := by decide +kernel
theorem dX11_choose_85 : decode cX11_choose 85 = .ok (.iload_n 3, 1) := by decide +kernel
theorem dX11_choose_86 : decode cX11_choose 86 = .ok (.iaload, 1) := by decide +kernel
theorem dX11_choose_87 : decode cX11_choose 87 = .ok (.ifCond .ne 11, 3) := by decide +kernel
theorem dX11_choose_90 : decode cX11_choose 90 = .ok (.iload 5, 2) := by decide +kernel
theorem dX11_choose_92 : decode cX11_choose 92 = .ok (.ifCond .eq 12, 3) := by decide +kernel
theorem dX11_choose_95 : decode cX11_choose 95 = .ok (.goto 8, 3) := by decide +kernel
theorem dX11_choose_98 : decode cX11_choose 98 = .ok (.iload 5, 2) := by decide +kernel
theorem dX11_choose_100 : decode cX11_choose 100 = .ok (.ifCond .ne 4, 3) := by decide +kernel
theorem dX11_choose_103 : decode cX11_choose 103 = .ok (.return_, 1) := by decide +kernel
theorem dX11_choose_104 : decode cX11_choose 104 = .ok (.iinc 3 1, 3) := by decide +kernel
theorem dX11_choose_107 : decode cX11_choose 107 = .ok (.goto (-88), 3) := by decide +kernel
theorem dX11_choose_110 : decode cX11_choose 110 = .ok (.iconst 0, 1) := by decide +kernel
theorem dX11_choose_111 : decode cX11_choose 111 = .ok (.istore_n 3, 1) := by decide +kernel
theorem dX11_choose_112 : decode cX11_choose 112 = .ok (.iconst 0, 1) := by decide +kernel
theorem dX11_choose_113 : decode cX11_choose 113 = .ok (.istore 4, 2) := by decide +kernel
theorem dX11_choose_115 : decode cX11_choose 115 = .ok (.iload 4, 2) := by decide +kernel
theorem dX11_choose_117 : decode cX11_choose 117 = .ok (.aload_n 0, 1) := by decide +kernel
theorem dX11_choose_118 : decode cX11_choose 118 = .ok (.getfield 34, 3) := by decide +kernel
theorem dX11_choose_121 : decode cX11_choose 121 = .ok (.iload_n 1, 1) := by decide +kernel
theorem dX11_choose_122 : decode cX11_choose 122 = .ok (.iaload, 1) := by decide +kernel
theorem dX11_choose_123 : decode cX11_choose 123 = .ok (.if_icmp .ge 31, 3) := by decide +kernel
theorem dX11_choose_126 : decode cX11_choose 126 = .ok (.iload_n 3, 1) := by decide +kernel
theorem dX11_choose_127 : decode cX11_choose 127 = .ok (.iload_n 2, 1) := by decide +kernel
theorem dX11_choose_128 : decode cX11_choose 128 = .ok (.iload 4, 2) := by decide +kernel
theorem dX11_choose_130 : decode cX11_choose 130 = .ok (.ishr, 1) := by decide +kernel
theorem dX11_choose_131 : decode cX11_choose 131 = .ok (.iconst 1, 1) := by decide +kernel
theorem dX11_choose_132 : decode cX11_choose 132 = .ok (.iand, 1) := by decide +kernel
theorem dX11_choose_133 : decode cX11_choose 133 = .ok (.aload_n 0, 1) := by decide +kernel
theorem dX11_choose_134 : decode cX11_choose 134 = .ok (.getfield 49, 3) := by decide +kernel
theorem dX11_choose_137 : decode cX11_choose 137 = .ok (.bipush 20, 2) := by decide +kernel
theorem dX11_choose_139 : decode cX11_choose 139 = .ok (.iload_n 1, 1) := by decide +kernel
theorem dX11_choose_140 : decode cX11_choose 140 = .ok (.imul, 1) := by decide +kernel
theorem dX11_choose_141 : decode cX11_choose 141 = .ok (.iload 4, 2) := by decide +kernel
theorem dX11_choose_143 : decode cX11_choose 143 = .ok (.iadd, 1) := by decide +kernel
theorem dX11_choose_144 : decode cX11_choose 144 = .ok (.iaload, 1) := by decide +kernel
theorem dX11_choose_145 : decode cX11_choose 145 = .ok (.imul, 1) := by decide +kernel
theorem dX11_choose_146 : decode cX11_choose 146 = .ok (.iadd, 1) := by decide +kernel
theorem dX11_choose_147 : decode cX11_choose 147 = .ok (.istore_n 3, 1) := by decide +kernel
theorem dX11_choose_148 : decode cX11_choose 148 = .ok (.iinc 4 1, 3) := by decide +kernel
theorem dX11_choose_151 : decode cX11_choose 151 = .ok (.goto (-36), 3) := by decide +kernel
theorem dX11_choose_154 : decode cX11_choose 154 = .ok (.aload_n 0, 1) := by decide +kernel
theorem dX11_choose_155 : decode cX11_choose 155 = .ok (.iload_n 1, 1) := by decide +kernel
theorem dX11_choose_156 : decode cX11_choose 156 = .ok (.iload_n 3, 1) := by decide +kernel
theorem dX11_choose_157 : decode cX11_choose 157 = .ok (.iload_n 2, 1) := by decide +kernel
theorem dX11_choose_158 : decode cX11_choose 158 = .ok (.invokevirtual 320, 3) := by decide +kernel
theorem dX11_choose_161 : decode cX11_choose 161 = .ok (.return_, 1) := by decide +kernel
theorem dX11_couple_0 : decode cX11_couple 0 = .ok (.iload_n 1, 1) := by decide +kernel
theorem dX11_couple_1 : decode cX11_couple 1 = .ok (.iload_n 1, 1) := by decide +kernel
theorem dX11_couple_2 : decode cX11_couple 2 = .ok (.iconst 1, 1) := by decide +kernel
theorem dX11_couple_3 : decode cX11_couple 3 = .ok (.isub, 1) := by decide +kernel
theorem dX11_couple_4 : decode cX11_couple 4 = .ok (.imul, 1) := by decide +kernel
theorem dX11_couple_5 : decode cX11_couple 5 = .ok (.iconst 2, 1) := by decide +kernel
theorem dX11_couple_6 : decode cX11_couple 6 = .ok (.idiv, 1) := by decide +kernel
theorem dX11_couple_7 : decode cX11_couple 7 = .ok (.iload_n 0, 1) := by decide +kernel
theorem dX11_couple_8 : decode cX11_couple 8 = .ok (.iadd, 1) := by decide +kernel
theorem dX11_couple_9 : decode cX11_couple 9 = .ok (.ireturn, 1) := by decide +kernel
theorem dX11_arrange_0 : decode cX11_arrange 0 = .ok (.iload_n 3, 1) := by decide +kernel
theorem dX11_arrange_1 : decode cX11_arrange 1 = .ok (.aload_n 0, 1) := by decide +kernel
theorem dX11_arrange_2 : decode cX11_arrange 2 = .ok (.getfield 34, 3) := by decide +kernel
theorem dX11_arrange_5 : decode cX11_arrange 5 = .ok (.iload_n 1, 1) := by decide +kernel
theorem dX11_arrange_6 : decode cX11_arrange 6 = .ok (.iaload, 1) := by decide +kernel
theorem dX11_arrange_7 : decode cX11_arrange 7 = .ok (.if_icmp .ne 13, 3) := by decide +kernel
theorem dX11_arrange_10 : decode cX11_arrange 10 = .ok (.aload_n 0, 1) := by decide +kernel
theorem dX11_arrange_11 : decode cX11_arrange 11 = .ok (.iload_n 1, 1) := by decide +kernel
theorem dX11_arrange_12 : decode cX11_arrange 12 = .ok (.iload 4, 2) := by decide +kernel
theorem dX11_arrange_14 : decode cX11_arrange 14 = .ok (.iload 5, 2) := by decide +kernel
theorem dX11_arrange_16 : decode cX11_arrange 16 = .ok (.invokevirtual 320, 3) := by decide +kernel
theorem dX11_arrange_19 : decode cX11_arrange 19 = .ok (.return_, 1) := by decide +kernel
theorem dX11_arrange_20 : decode cX11_arrange 20 = .ok (.iconst 0, 1) := by decide +kernel
theorem dX11_arrange_21 : decode cX11_arrange 21 = .ok (.istore 6, 2) := by decide +kernel
theorem dX11_arrange_23 : decode cX11_arrange 23 = .ok (.iload 6, 2) := by decide +kernel
theorem dX11_arrange_25 : decode cX11_arrange 25 = .ok (.aload_n 0, 1) := by decide +kernel
theorem dX11_arrange_26 : decode cX11_arrange 26 = .ok (.getfield 34, 3) := by decide +kernel
theorem dX11_arrange_29 : decode cX11_arrange 29 = .ok (.iload_n 1, 1) := by decide +kernel
theorem dX11_arrange_30 : decode cX11_arrange 30 = .ok (.iaload, 1) := by decide +kernel
theorem dX11_arrange_31 : decode cX11_arrange 31 = .ok (.if_icmp .ge 118, 3) := by decide +kernel
theorem dX11_arrange_34 : decode cX11_arrange 34 = .ok (.iload_n 2, 1) := by decide +kernel
theorem dX11_arrange_35 : decode cX11_arrange 35 = .ok (.iload 6, 2) := by decide +kernel
theorem dX11_arrange_37 : decode cX11_arrange 37 = .ok (.ishr, 1) := by decide +kernel
theorem dX11_arrange_38 : decode cX11_arrange 38 = .ok (.iconst 1, 1) := by decide +kernel
theorem dX11_arrange_39 : decode cX11_arrange 39 = .ok (.iand, 1) := by decide +kernel
theorem dX11_arrange_40 : decode cX11_arrange 40 = .ok (.iconst 1, 1) := by decide +kernel
theorem dX11_arrange_41 : decode cX11_arrange 41 = .ok (.if_icmp .eq 102, 3) := by decide +kernel
theorem dX11_arrange_44 : decode cX11_arrange 44 = .ok (.aload_n 0, 1) := by decide +kernel
theorem dX11_arrange_45 : decode cX11_arrange 45 = .ok (.iload_n 1, 1) := by decide +kernel
theorem dX11_arrange_46 : decode cX11_arrange 46 = .ok (.iload 6, 2) := by decide +kernel
theorem dX11_arrange_48 : decode cX11_arrange 48 = .ok (.iload_n 2, 1) := by decide +kernel
theorem dX11_arrange_49 : decode cX11_arrange 49 = .ok (.invokevirtual 327, 3) := by decide +kernel
theorem dX11_arrange_52 : decode cX11_arrange 52 = .ok (.ifCond .ne 6, 3) := by decide +kernel
theorem dX11_arrange_55 : decode cX11_arrange 55 = .ok (.goto 88, 3) := by decide +kernel
theorem dX11_arrange_58 : decode cX11_arrange 58 = .ok (.iload 5, 2) := by decide +kernel
theorem dX11_arrange_60 : decode cX11_arrange 60 = .ok (.istore 7, 2) := by decide +kernel
theorem dX11_arrange_62 : decode cX11_arrange 62 = .ok (.iload 6, 2) := by decide +kernel
theorem dX11_arrange_64 : decode cX11_arrange 64 = .ok (.iconst 1, 1) := by decide +kernel
theorem dX11_arrange_65 : decode cX11_arrange 65 = .ok (.iadd, 1) := by decide +kernel
theorem dX11_arrange_66 : decode cX11_arrange 66 = .ok (.istore 8, 2) := by decide +kernel
theorem dX11_arrange_68 : decode cX11_arrange 68 = .ok (.iload 8, 2) := by decide +kernel
theorem dX11_arrange_70 : decode cX11_arrange 70 = .ok (.aload_n 0, 1) := by decide +kernel
theorem dX11_arrange_71 : decode cX11_arrange 71 = .ok (.getfield 34, 3) := by decide +kernel
theorem dX11_arrange_74 : decode cX11_arrange 74 = .ok (.iload_n 1, 1) := by decide +kernel
theorem dX11_arrange_75 : decode cX11_arrange 75 = .ok (.iaload, 1) := by decide +kernel
theorem dX11_arrange_76 : decode cX11_arrange 76 = .ok (.if_icmp .ge 32, 3) := by decide +kernel
theorem dX11_arrange_79 : decode cX11_arrange 79 = .ok (.iload_n 2, 1) := by decide +kernel
theorem dX11_arrange_80 : decode cX11_arrange 80 = .ok (.iload 8, 2) := by decide +kernel
theorem dX11_arrange_82 : decode cX11_arrange 82 = .ok (.ishr, 1) := by decide +kernel
theorem dX11_arrange_83 : decode cX11_arrange 83 = .ok (.iconst 1, 1) := by decide +kernel
theorem dX11_arrange_84 : decode cX11_arrange 84 = .ok (.iand, 1) := by decide +kernel
theorem dX11_arrange_85 : decode cX11_arrange 85 = .ok (.ifCond .ne 17, 3) := by decide +kernel
theorem dX11_arrange_88 : decode cX11_arrange 88 = .ok (.iload 7, 2) := by decide +kernel
theorem dX11_arrange_90 : decode cX11_arrange 90 = .ok (.iconst 1, 1) := by decide +kernel
theorem dX11_arrange_91 : decode cX11_arrange 91 = .ok (.iload 6, 2) := by decide +kernel
theorem dX11_arrange_93 : decode cX11_arrange 93 = .ok (.iload 8, 2) := by decide +kernel
theorem dX11_arrange_95 : decode cX11_arrange 95 = .ok (.invokestatic 330, 3) := by decide +kernel
theorem dX11_arrange_98 : decode cX11_arrange 98 = .ok (.ishl, 1) := by decide +kernel
theorem dX11_arrange_99 : decode cX11_arrange 99 = .ok (.ior, 1) := by decide +kernel
theorem dX11_arrange_100 : decode cX11_arrange 100 = .ok (.istore 7, 2) := by decide +kernel
theorem dX11_arrange_102 : decode cX11_arrange 102 = .ok (.iinc 8 1, 3) := by decide +kernel
theorem dX11_arrange_105 : decode cX11_arrange 105 = .ok (.goto (-37), 3) := by decide +kernel
theorem dX11_arrange_108 : decode cX11_arrange 108 = .ok (.aload_n 0, 1) := by decide +kernel
theorem dX11_arrange_109 : decode cX11_arrange 109 = .ok (.iload_n 1, 1) := by decide +kernel
theorem dX11_arrange_110 : decode cX11_arrange 110 = .ok (.iload_n 2, 1) := by decide +kernel
theorem dX11_arrange_111 : decode cX11_arrange 111 = .ok (.iconst 1, 1) := by decide +kernel
theorem dX11_arrange_112 : decode cX11_arrange 112 = .ok (.iload 6, 2) := by decide +kernel
theorem dX11_arrange_114 : decode cX11_arrange 114 = .ok (.ishl, 1) := by decide +kernel
theorem dX11_arrange_115 : decode cX11_arrange 115 = .ok (.ior, 1) := by decide +kernel
theorem dX11_arrange_116 : decode cX11_arrange 116 = .ok (.iload_n 3, 1) := by decide +kernel
theorem dX11_arrange_117 : decode cX11_arrange 117 = .ok (.iconst 1, 1) := by decide +kernel
theorem dX11_arrange_118 : decode cX11_arrange 118 = .ok (.iadd, 1) := by decide +kernel
theorem dX11_arrange_119 : decode cX11_arrange 119 = .ok (.iload 4, 2) := by decide +kernel
theorem dX11_arrange_121 : decode cX11_arrange 121 = .ok (.aload_n 0, 1) := by decide +kernel
theorem dX11_arrange_122 : decode cX11_arrange 122 = .ok (.getfield 49, 3) := by decide +kernel
theorem dX11_arrange_125 : decode cX11_arrange 125 = .ok (.bipush 20, 2) := by decide +kernel
theorem dX11_arrange_127 : decode cX11_arrange 127 = .ok (.iload_n 1, 1) := by decide +kernel
theorem dX11_arrange_128 : decode cX11_arrange 128 = .ok (.imul, 1) := by decide +kernel
theorem dX11_arrange_129 : decode cX11_arrange 129 = .ok (.iload 6, 2) := by decide +kernel
theorem dX11_arrange_131 : decode cX11_arrange 131 = .ok (.iadd, 1) := by decide +kernel
theorem dX11_arrange_132 : decode cX11_arrange 132 = .ok (.iaload, 1) := by decide +kernel
theorem dX11_arrange_133 : decode cX11_arrange 133 = .ok (.iload_n 3, 1) := by decide +kernel
theorem dX11_arrange_134 : decode cX11_arrange 134 = .ok (.iconst 1, 1) := by decide +kernel
theorem dX11_arrange_135 : decode cX11_arrange 135 = .ok (.iadd, 1) := by decide +kernel
theorem dX11_arrange_136 : decode cX11_arrange 136 = .ok (.imul, 1) := by decide +kernel
theorem dX11_arrange_137 : decode cX11_arrange 137 = .ok (.iadd, 1) := by decide +kernel
theorem dX11_arrange_138 : decode cX11_arrange 138 = .ok (.iload 7, 2) := by decide +kernel
theorem dX11_arrange_140 : decode cX11_arrange 140 = .ok (.invokevirtual 310, 3) := by decide +kernel
theorem dX11_arrange_143 : decode cX11_arrange 143 = .ok (.iinc 6 1, 3) := by decide +kernel
theorem dX11_arrange_146 : decode cX11_arrange 146 = .ok (.goto (-123), 3) := by decide +kernel
theorem dX11_arrange_149 : decode cX11_arrange 149 = .ok (.return_, 1) := by decide +kernel
theorem dX11_mayNow_0 : decode cX11_mayNow 0 = .ok (.bipush 12, 2) := by decide +kernel
theorem dX11_mayNow_2 : decode cX11_mayNow 2 = .ok (.iload_n 1, 1) := by decide +kernel
theorem dX11_mayNow_3 : decode cX11_mayNow 3 = .ok (.imul, 1) := by decide +kernel
theorem dX11_mayNow_4 : decode cX11_mayNow 4 = .ok (.istore 4, 2) := by decide +kernel
theorem dX11_mayNow_6 : decode cX11_mayNow 6 = .ok (.iload 4, 2) := by decide +kernel
theorem dX11_mayNow_8 : decode cX11_mayNow 8 = .ok (.bipush 12, 2) := by decide +kernel
theorem dX11_mayNow_10 : decode cX11_mayNow 10 = .ok (.iload_n 1, 1) := by decide +kernel
theorem dX11_mayNow_11 : decode cX11_mayNow 11 = .ok (.imul, 1) := by decide +kernel
theorem dX11_mayNow_12 : decode cX11_mayNow 12 = .ok (.aload_n 0, 1) := by decide +kernel
theorem dX11_mayNow_13 : decode cX11_mayNow 13 = .ok (.getfield 40, 3) := by decide +kernel
theorem dX11_mayNow_16 : decode cX11_mayNow 16 = .ok (.iload_n 1, 1) := by decide +kernel
theorem dX11_mayNow_17 : decode cX11_mayNow 17 = .ok (.iaload, 1) := by decide +kernel
theorem dX11_mayNow_18 : decode cX11_mayNow 18 = .ok (.iadd, 1) := by decide +kernel
theorem dX11_mayNow_19 : decode cX11_mayNow 19 = .ok (.if_icmp .ge 36, 3) := by decide +kernel
theorem dX11_mayNow_22 : decode cX11_mayNow 22 = .ok (.aload_n 0, 1) := by decide +kernel
theorem dX11_mayNow_23 : decode cX11_mayNow 23 = .ok (.getfield 58, 3) := by decide +kernel
theorem dX11_mayNow_26 : decode cX11_mayNow 26 = .ok (.iload 4, 2) := by decide +kernel
theorem dX11_mayNow_28 : decode cX11_mayNow 28 = .ok (.iaload, 1) := by decide +kernel
theorem dX11_mayNow_29 : decode cX11_mayNow 29 = .ok (.iload_n 2, 1) := by decide +kernel
theorem dX11_mayNow_30 : decode cX11_mayNow 30 = .ok (.if_icmp .ne 19, 3) := by decide +kernel
theorem dX11_mayNow_33 : decode cX11_mayNow 33 = .ok (.iload_n 3, 1) := by decide +kernel
theorem dX11_mayNow_34 : decode cX11_mayNow 34 = .ok (.aload_n 0, 1) := by decide +kernel
theorem dX11_mayNow_35 : decode cX11_mayNow 35 = .ok (.getfield 55, 3) := by decide +kernel
theorem dX11_mayNow_38 : decode cX11_mayNow 38 = .ok (.iload 4, 2) := by decide +kernel
theorem dX11_mayNow_40 : decode cX11_mayNow 40 = .ok (.iaload, 1) := by decide +kernel
theorem dX11_mayNow_41 : decode cX11_mayNow 41 = .ok (.ishr, 1) := by decide +kernel
theorem dX11_mayNow_42 : decode cX11_mayNow 42 = .ok (.iconst 1, 1) := by decide +kernel
theorem dX11_mayNow_43 : decode cX11_mayNow 43 = .ok (.iand, 1) := by decide +kernel
theorem dX11_mayNow_44 : decode cX11_mayNow 44 = .ok (.ifCond .ne 5, 3) := by decide +kernel
theorem dX11_mayNow_47 : decode cX11_mayNow 47 = .ok (.iconst 0, 1) := by decide +kernel
theorem dX11_mayNow_48 : decode cX11_mayNow 48 = .ok (.ireturn, 1) := by decide +kernel
theorem dX11_mayNow_49 : decode cX11_mayNow 49 = .ok (.iinc 4 1, 3) := by decide +kernel
theorem dX11_mayNow_52 : decode cX11_mayNow 52 = .ok (.goto (-46), 3) := by decide +kernel
theorem dX11_mayNow_55 : decode cX11_mayNow 55 = .ok (.iconst 1, 1) := by decide +kernel
theorem dX11_mayNow_56 : decode cX11_mayNow 56 = .ok (.ireturn, 1) := by decide +kernel
theorem dX11_isAhead_0 : decode cX11_isAhead 0 = .ok (.sipush 2000, 3) := by decide +kernel
theorem dX11_isAhead_3 : decode cX11_isAhead 3 = .ok (.iload_n 1, 1) := by decide +kernel
theorem dX11_isAhead_4 : decode cX11_isAhead 4 = .ok (.imul, 1) := by decide +kernel
theorem dX11_isAhead_5 : decode cX11_isAhead 5 = .ok (.iload_n 2, 1) := by decide +kernel
theorem dX11_isAhead_6 : decode cX11_isAhead 6 = .ok (.iadd, 1) := by decide +kernel
theorem dX11_isAhead_7 : decode cX11_isAhead 7 = .ok (.istore 4, 2) := by decide +kernel
theorem dX11_isAhead_9 : decode cX11_isAhead 9 = .ok (.sipush 2000, 3) := by decide +kernel
theorem dX11_isAhead_12 : decode cX11_isAhead 12 = .ok (.iload_n 1, 1) := by decide +kernel
theorem dX11_isAhead_13 : decode cX11_isAhead 13 = .ok (.imul, 1) := by decide +kernel
theorem dX11_isAhead_14 : decode cX11_isAhead 14 = .ok (.iload_n 3, 1) := by decide +kernel
theorem dX11_isAhead_15 : decode cX11_isAhead 15 = .ok (.iadd, 1) := by decide +kernel
theorem dX11_isAhead_16 : decode cX11_isAhead 16 = .ok (.istore 5, 2) := by decide +kernel
theorem dX11_isAhead_18 : decode cX11_isAhead 18 = .ok (.aload_n 0, 1) := by decide +kernel
theorem dX11_isAhead_19 : decode cX11_isAhead 19 = .ok (.getfield 64, 3) := by decide +kernel
theorem dX11_isAhead_22 : decode cX11_isAhead 22 = .ok (.iload 4, 2) := by decide +kernel
theorem dX11_isAhead_24 : decode cX11_isAhead 24 = .ok (.iaload, 1) := by decide +kernel
theorem dX11_isAhead_25 : decode cX11_isAhead 25 = .ok (.aload_n 0, 1) := by decide +kernel
theorem dX11_isAhead_26 : decode cX11_isAhead 26 = .ok (.getfield 64, 3) := by decide +kernel
theorem dX11_isAhead_29 : decode cX11_isAhead 29 = .ok (.iload 5, 2) := by decide +kernel
theorem dX11_isAhead_31 : decode cX11_isAhead 31 = .ok (.iaload, 1) := by decide +kernel
theorem dX11_isAhead_32 : decode cX11_isAhead 32 = .ok (.if_icmp .eq 28, 3) := by decide +kernel
theorem dX11_isAhead_35 : decode cX11_isAhead 35 = .ok (.aload_n 0, 1) := by decide +kernel
theorem dX11_isAhead_36 : decode cX11_isAhead 36 = .ok (.getfield 64, 3) := by decide +kernel
theorem dX11_isAhead_39 : decode cX11_isAhead 39 = .ok (.iload 4, 2) := by decide +kernel
theorem dX11_isAhead_41 : decode cX11_isAhead 41 = .ok (.iaload, 1) := by decide +kernel
theorem dX11_isAhead_42 : decode cX11_isAhead 42 = .ok (.aload_n 0, 1) := by decide +kernel
theorem dX11_isAhead_43 : decode cX11_isAhead 43 = .ok (.getfield 64, 3) := by decide +kernel
theorem dX11_isAhead_46 : decode cX11_isAhead 46 = .ok (.iload 5, 2) := by decide +kernel
theorem dX11_isAhead_48 : decode cX11_isAhead 48 = .ok (.iaload, 1) := by decide +kernel
theorem dX11_isAhead_49 : decode cX11_isAhead 49 = .ok (.if_icmp .ge 7, 3) := by decide +kernel
theorem dX11_isAhead_52 : decode cX11_isAhead 52 = .ok (.iconst 1, 1) := by decide +kernel
theorem dX11_isAhead_53 : decode cX11_isAhead 53 = .ok (.goto 29, 3) := by decide +kernel
theorem dX11_isAhead_56 : decode cX11_isAhead 56 = .ok (.iconst 0, 1) := by decide +kernel
theorem dX11_isAhead_57 : decode cX11_isAhead 57 = .ok (.goto 25, 3) := by decide +kernel
theorem dX11_isAhead_60 : decode cX11_isAhead 60 = .ok (.aload_n 0, 1) := by decide +kernel
theorem dX11_isAhead_61 : decode cX11_isAhead 61 = .ok (.getfield 67, 3) := by decide +kernel
theorem dX11_isAhead_64 : decode cX11_isAhead 64 = .ok (.iload 4, 2) := by decide +kernel
theorem dX11_isAhead_66 : decode cX11_isAhead 66 = .ok (.iaload, 1) := by decide +kernel
theorem dX11_isAhead_67 : decode cX11_isAhead 67 = .ok (.aload_n 0, 1) := by decide +kernel
theorem dX11_isAhead_68 : decode cX11_isAhead 68 = .ok (.getfield 67, 3) := by decide +kernel
theorem dX11_isAhead_71 : decode cX11_isAhead 71 = .ok (.iload 5, 2) := by decide +kernel
theorem dX11_isAhead_73 : decode cX11_isAhead 73 = .ok (.iaload, 1) := by decide +kernel
theorem dX11_isAhead_74 : decode cX11_isAhead 74 = .ok (.if_icmp .ge 7, 3) := by decide +kernel
theorem dX11_isAhead_77 : decode cX11_isAhead 77 = .ok (.iconst 1, 1) := by decide +kernel
theorem dX11_isAhead_78 : decode cX11_isAhead 78 = .ok (.goto 4, 3) := by decide +kernel
theorem dX11_isAhead_81 : decode cX11_isAhead 81 = .ok (.iconst 0, 1) := by decide +kernel
theorem dX11_isAhead_82 : decode cX11_isAhead 82 = .ok (.ireturn, 1) := by decide +kernel
theorem dX11_swap_0 : decode cX11_swap 0 = .ok (.sipush 2000, 3) := by decide +kernel
theorem dX11_swap_3 : decode cX11_swap 3 = .ok (.iload_n 1, 1) := by decide +kernel
theorem dX11_swap_4 : decode cX11_swap 4 = .ok (.imul, 1) := by decide +kernel
theorem dX11_swap_5 : decode cX11_swap 5 = .ok (.iload_n 2, 1) := by decide +kernel
theorem dX11_swap_6 : decode cX11_swap 6 = .ok (.iadd, 1) := by decide +kernel
theorem dX11_swap_7 : decode cX11_swap 7 = .ok (.istore 4, 2) := by decide +kernel
theorem dX11_swap_9 : decode cX11_swap 9 = .ok (.sipush 2000, 3) := by decide +kernel
theorem dX11_swap_12 : decode cX11_swap 12 = .ok (.iload_n 1, 1) := by decide +kernel
theorem dX11_swap_13 : decode cX11_swap 13 = .ok (.imul, 1) := by decide +kernel
theorem dX11_swap_14 : decode cX11_swap 14 = .ok (.iload_n 3, 1) := by decide +kernel
theorem dX11_swap_15 : decode cX11_swap 15 = .ok (.iadd, 1) := by decide +kernel
theorem dX11_swap_16 : decode cX11_swap 16 = .ok (.istore 5, 2) := by decide +kernel
theorem dX11_swap_18 : decode cX11_swap 18 = .ok (.aload_n 0, 1) := by decide +kernel
theorem dX11_swap_19 : decode cX11_swap 19 = .ok (.getfield 64, 3) := by decide +kernel
theorem dX11_swap_22 : decode cX11_swap 22 = .ok (.iload 4, 2) := by decide +kernel
theorem dX11_swap_24 : decode cX11_swap 24 = .ok (.iaload, 1) := by decide +kernel
theorem dX11_swap_25 : decode cX11_swap 25 = .ok (.istore 6, 2) := by decide +kernel
theorem dX11_swap_27 : decode cX11_swap 27 = .ok (.aload_n 0, 1) := by decide +kernel
theorem dX11_swap_28 : decode cX11_swap 28 = .ok (.getfield 67, 3) := by decide +kernel
theorem dX11_swap_31 : decode cX11_swap 31 = .ok (.iload 4, 2) := by decide +kernel
theorem dX11_swap_33 : decode cX11_swap 33 = .ok (.iaload, 1) := by decide +kernel
theorem dX11_swap_34 : decode cX11_swap 34 = .ok (.istore 7, 2) := by decide +kernel
theorem dX11_swap_36 : decode cX11_swap 36 = .ok (.aload_n 0, 1) := by decide +kernel
theorem dX11_swap_37 : decode cX11_swap 37 = .ok (.getfield 64, 3) := by decide +kernel
theorem dX11_swap_40 : decode cX11_swap 40 = .ok (.iload 4, 2) := by decide +kernel
theorem dX11_swap_42 : decode cX11_swap 42 = .ok (.aload_n 0, 1) := by decide +kernel
theorem dX11_swap_43 : decode cX11_swap 43 = .ok (.getfield 64, 3) := by decide +kernel
theorem dX11_swap_46 : decode cX11_swap 46 = .ok (.iload 5, 2) := by decide +kernel
theorem dX11_swap_48 : decode cX11_swap 48 = .ok (.iaload, 1) := by decide +kernel
theorem dX11_swap_49 : decode cX11_swap 49 = .ok (.iastore, 1) := by decide +kernel
theorem dX11_swap_50 : decode cX11_swap 50 = .ok (.aload_n 0, 1) := by decide +kernel
theorem dX11_swap_51 : decode cX11_swap 51 = .ok (.getfield 67, 3) := by decide +kernel
theorem dX11_swap_54 : decode cX11_swap 54 = .ok (.iload 4, 2) := by decide +kernel
theorem dX11_swap_56 : decode cX11_swap 56 = .ok (.aload_n 0, 1) := by decide +kernel
theorem dX11_swap_57 : decode cX11_swap 57 = .ok (.getfield 67, 3) := by decide +kernel
theorem dX11_swap_60 : decode cX11_swap 60 = .ok (.iload 5, 2) := by decide +kernel
theorem dX11_swap_62 : decode cX11_swap 62 = .ok (.iaload, 1) := by decide +kernel
theorem dX11_swap_63 : decode cX11_swap 63 = .ok (.iastore, 1) := by decide +kernel
theorem dX11_swap_64 : decode cX11_swap 64 = .ok (.aload_n 0, 1) := by decide +kernel
theorem dX11_swap_65 : decode cX11_swap 65 = .ok (.getfield 64, 3) := by decide +kernel
theorem dX11_swap_68 : decode cX11_swap 68 = .ok (.iload 5, 2) := by decide +kernel
theorem dX11_swap_70 : decode cX11_swap 70 = .ok (.iload 6, 2) := by decide +kernel
theorem dX11_swap_72 : decode cX11_swap 72 = .ok (.iastore, 1) := by decide +kernel
theorem dX11_swap_73 : decode cX11_swap 73 = .ok (.aload_n 0, 1) := by decide +kernel
theorem dX11_swap_74 : decode cX11_swap 74 = .ok (.getfield 67, 3) := by decide +kernel
theorem dX11_swap_77 : decode cX11_swap 77 = .ok (.iload 5, 2) := by decide +kernel
theorem dX11_swap_79 : decode cX11_swap 79 = .ok (.iload 7, 2) := by decide +kernel
theorem dX11_swap_81 : decode cX11_swap 81 = .ok (.iastore, 1) := by decide +kernel
theorem dX11_swap_82 : decode cX11_swap 82 = .ok (.return_, 1) := by decide +kernel
theorem dX11_sink_0 : decode cX11_sink 0 = .ok (.iload_n 2, 1) := by decide +kernel
theorem dX11_sink_1 : decode cX11_sink 1 = .ok (.istore 4, 2) := by decide +kernel
theorem dX11_sink_3 : decode cX11_sink 3 = .ok (.iconst 2, 1) := by decide +kernel
theorem dX11_sink_4 : decode cX11_sink 4 = .ok (.iload 4, 2) := by decide +kernel
theorem dX11_sink_6 : decode cX11_sink 6 = .ok (.imul, 1) := by decide +kernel
theorem dX11_sink_7 : decode cX11_sink 7 = .ok (.iconst 1, 1) := by decide +kernel
theorem dX11_sink_8 : decode cX11_sink 8 = .ok (.iadd, 1) := by decide +kernel
theorem dX11_sink_9 : decode cX11_sink 9 = .ok (.iload_n 3, 1) := by decide +kernel
theorem dX11_sink_10 : decode cX11_sink 10 = .ok (.if_icmp .ge 65, 3) := by decide +kernel
theorem dX11_sink_13 : decode cX11_sink 13 = .ok (.iconst 2, 1) := by decide +kernel
theorem dX11_sink_14 : decode cX11_sink 14 = .ok (.iload 4, 2) := by decide +kernel
theorem dX11_sink_16 : decode cX11_sink 16 = .ok (.imul, 1) := by decide +kernel
theorem dX11_sink_17 : decode cX11_sink 17 = .ok (.iconst 1, 1) := by decide +kernel
theorem dX11_sink_18 : decode cX11_sink 18 = .ok (.iadd, 1) := by decide +kernel
theorem dX11_sink_19 : decode cX11_sink 19 = .ok (.istore 5, 2) := by decide +kernel
theorem dX11_sink_21 : decode cX11_sink 21 = .ok (.iload 5, 2) := by decide +kernel
theorem dX11_sink_23 : decode cX11_sink 23 = .ok (.iconst 1, 1) := by decide +kernel
theorem dX11_sink_24 : decode cX11_sink 24 = .ok (.iadd, 1) := by decide +kernel
theorem dX11_sink_25 : decode cX11_sink 25 = .ok (.iload_n 3, 1) := by decide +kernel
theorem dX11_sink_26 : decode cX11_sink 26 = .ok (.if_icmp .ge 20, 3) := by decide +kernel
theorem dX11_sink_29 : decode cX11_sink 29 = .ok (.aload_n 0, 1) := by decide +kernel
theorem dX11_sink_30 : decode cX11_sink 30 = .ok (.iload_n 1, 1) := by decide +kernel
theorem dX11_sink_31 : decode cX11_sink 31 = .ok (.iload 5, 2) := by decide +kernel
theorem dX11_sink_33 : decode cX11_sink 33 = .ok (.iload 5, 2) := by decide +kernel
theorem dX11_sink_35 : decode cX11_sink 35 = .ok (.iconst 1, 1) := by decide +kernel
theorem dX11_sink_36 : decode cX11_sink 36 = .ok (.iadd, 1) := by decide +kernel
theorem dX11_sink_37 : decode cX11_sink 37 = .ok (.invokevirtual 333, 3) := by decide +kernel
theorem dX11_sink_40 : decode cX11_sink 40 = .ok (.ifCond .eq 6, 3) := by decide +kernel
theorem dX11_sink_43 : decode cX11_sink 43 = .ok (.iinc 5 1, 3) := by decide +kernel
theorem dX11_sink_46 : decode cX11_sink 46 = .ok (.aload_n 0, 1) := by decide +kernel
theorem dX11_sink_47 : decode cX11_sink 47 = .ok (.iload_n 1, 1) := by decide +kernel
theorem dX11_sink_48 : decode cX11_sink 48 = .ok (.iload 4, 2) := by decide +kernel
theorem dX11_sink_50 : decode cX11_sink 50 = .ok (.iload 5, 2) := by decide +kernel
theorem dX11_sink_52 : decode cX11_sink 52 = .ok (.invokevirtual 333, 3) := by decide +kernel
theorem dX11_sink_55 : decode cX11_sink 55 = .ok (.ifCond .ne 4, 3) := by decide +kernel
theorem dX11_sink_58 : decode cX11_sink 58 = .ok (.return_, 1) := by decide +kernel
theorem dX11_sink_59 : decode cX11_sink 59 = .ok (.aload_n 0, 1) := by decide +kernel
theorem dX11_sink_60 : decode cX11_sink 60 = .ok (.iload_n 1, 1) := by decide +kernel
theorem dX11_sink_61 : decode cX11_sink 61 = .ok (.iload 4, 2) := by decide +kernel
theorem dX11_sink_63 : decode cX11_sink 63 = .ok (.iload 5, 2) := by decide +kernel
theorem dX11_sink_65 : decode cX11_sink 65 = .ok (.invokevirtual 336, 3) := by decide +kernel
theorem dX11_sink_68 : decode cX11_sink 68 = .ok (.iload 5, 2) := by decide +kernel
theorem dX11_sink_70 : decode cX11_sink 70 = .ok (.istore 4, 2) := by decide +kernel
theorem dX11_sink_72 : decode cX11_sink 72 = .ok (.goto (-69), 3) := by decide +kernel
theorem dX11_sink_75 : decode cX11_sink 75 = .ok (.return_, 1) := by decide +kernel
theorem dX11_sort_0 : decode cX11_sort 0 = .ok (.aload_n 0, 1) := by decide +kernel
theorem dX11_sort_1 : decode cX11_sort 1 = .ok (.getfield 61, 3) := by decide +kernel
theorem dX11_sort_4 : decode cX11_sort 4 = .ok (.iload_n 1, 1) := by decide +kernel
theorem dX11_sort_5 : decode cX11_sort 5 = .ok (.iaload, 1) := by decide +kernel
theorem dX11_sort_6 : decode cX11_sort 6 = .ok (.iconst 2, 1) := by decide +kernel
theorem dX11_sort_7 : decode cX11_sort 7 = .ok (.idiv, 1) := by decide +kernel
theorem dX11_sort_8 : decode cX11_sort 8 = .ok (.istore_n 2, 1) := by decide +kernel
theorem dX11_sort_9 : decode cX11_sort 9 = .ok (.iload_n 2, 1) := by decide +kernel
theorem dX11_sort_10 : decode cX11_sort 10 = .ok (.ifCond .lt 21, 3) := by decide +kernel
theorem dX11_sort_13 : decode cX11_sort 13 = .ok (.aload_n 0, 1) := by decide +kernel
theorem dX11_sort_14 : decode cX11_sort 14 = .ok (.iload_n 1, 1) := by decide +kernel
theorem dX11_sort_15 : decode cX11_sort 15 = .ok (.iload_n 2, 1) := by decide +kernel
theorem dX11_sort_16 : decode cX11_sort 16 = .ok (.aload_n 0, 1) := by decide +kernel
theorem dX11_sort_17 : decode cX11_sort 17 = .ok (.getfield 61, 3) := by decide +kernel
theorem dX11_sort_20 : decode cX11_sort 20 = .ok (.iload_n 1, 1) := by decide +kernel
theorem dX11_sort_21 : decode cX11_sort 21 = .ok (.iaload, 1) := by decide +kernel
theorem dX11_sort_22 : decode cX11_sort 22 = .ok (.invokevirtual 339, 3) := by decide +kernel
theorem dX11_sort_25 : decode cX11_sort 25 = .ok (.iinc 2 (-1), 3) := by decide +kernel
theorem dX11_sort_28 : decode cX11_sort 28 = .ok (.goto (-19), 3) := by decide +kernel
theorem dX11_sort_31 : decode cX11_sort 31 = .ok (.aload_n 0, 1) := by decide +kernel
theorem dX11_sort_32 : decode cX11_sort 32 = .ok (.getfield 61, 3) := by decide +kernel
theorem dX11_sort_35 : decode cX11_sort 35 = .ok (.iload_n 1, 1) := by decide +kernel
theorem dX11_sort_36 : decode cX11_sort 36 = .ok (.iaload, 1) := by decide +kernel
theorem dX11_sort_37 : decode cX11_sort 37 = .ok (.iconst 1, 1) := by decide +kernel
theorem dX11_sort_38 : decode cX11_sort 38 = .ok (.isub, 1) := by decide +kernel
theorem dX11_sort_39 : decode cX11_sort 39 = .ok (.istore_n 2, 1) := by decide +kernel
theorem dX11_sort_40 : decode cX11_sort 40 = .ok (.iload_n 2, 1) := by decide +kernel
theorem dX11_sort_41 : decode cX11_sort 41 = .ok (.ifCond .le 23, 3) := by decide +kernel
theorem dX11_sort_44 : decode cX11_sort 44 = .ok (.aload_n 0, 1) := by decide +kernel
theorem dX11_sort_45 : decode cX11_sort 45 = .ok (.iload_n 1, 1) := by decide +kernel
theorem dX11_sort_46 : decode cX11_sort 46 = .ok (.iconst 0, 1) := by decide +kernel
theorem dX11_sort_47 : decode cX11_sort 47 = .ok (.iload_n 2, 1) := by decide +kernel
theorem dX11_sort_48 : decode cX11_sort 48 = .ok (.invokevirtual 336, 3) := by decide +kernel
theorem dX11_sort_51 : decode cX11_sort 51 = .ok (.aload_n 0, 1) := by decide +kernel
theorem dX11_sort_52 : decode cX11_sort 52 = .ok (.iload_n 1, 1) := by decide +kernel
theorem dX11_sort_53 : decode cX11_sort 53 = .ok (.iconst 0, 1) := by decide +kernel
theorem dX11_sort_54 : decode cX11_sort 54 = .ok (.iload_n 2, 1) := by decide +kernel
theorem dX11_sort_55 : decode cX11_sort 55 = .ok (.invokevirtual 339, 3) := by decide +kernel
theorem dX11_sort_58 : decode cX11_sort 58 = .ok (.iinc 2 (-1), 3) := by decide +kernel
theorem dX11_sort_61 : decode cX11_sort 61 = .ok (.goto (-21), 3) := by decide +kernel
theorem dX11_sort_64 : decode cX11_sort 64 = .ok (.return_, 1) := by decide +kernel
theorem dX11_freeBits_0 : decode cX11_freeBits 0 = .ok (.aload_n 0, 1) := by decide +kernel
theorem dX11_freeBits_1 : decode cX11_freeBits 1 = .ok (.getfield 21, 3) := by decide +kernel
theorem dX11_freeBits_4 : decode cX11_freeBits 4 = .ok (.iload_n 1, 1) := by decide +kernel
theorem dX11_freeBits_5 : decode cX11_freeBits 5 = .ok (.iaload, 1) := by decide +kernel
theorem dX11_freeBits_6 : decode cX11_freeBits 6 = .ok (.iconst 2, 1) := by decide +kernel
theorem dX11_freeBits_7 : decode cX11_freeBits 7 = .ok (.if_icmp .eq 10, 3) := by decide +kernel
theorem dX11_freeBits_10 : decode cX11_freeBits 10 = .ok (.aload_n 0, 1) := by decide +kernel
theorem dX11_freeBits_11 : decode cX11_freeBits 11 = .ok (.getfield 37, 3) := by decide +kernel
theorem dX11_freeBits_14 : decode cX11_freeBits 14 = .ok (.iload_n 1, 1) := by decide +kernel
theorem dX11_freeBits_15 : decode cX11_freeBits 15 = .ok (.iaload, 1) := by decide +kernel
theorem dX11_freeBits_16 : decode cX11_freeBits 16 = .ok (.ireturn, 1) := by decide +kernel
theorem dX11_freeBits_17 : decode cX11_freeBits 17 = .ok (.iconst 0, 1) := by decide +kernel
theorem dX11_freeBits_18 : decode cX11_freeBits 18 = .ok (.istore_n 2, 1) := by decide +kernel
theorem dX11_freeBits_19 : decode cX11_freeBits 19 = .ok (.iconst 0, 1) := by decide +kernel
theorem dX11_freeBits_20 : decode cX11_freeBits 20 = .ok (.istore_n 3, 1) := by decide +kernel
theorem dX11_freeBits_21 : decode cX11_freeBits 21 = .ok (.iload_n 3, 1) := by decide +kernel
theorem dX11_freeBits_22 : decode cX11_freeBits 22 = .ok (.aload_n 0, 1) := by decide +kernel
theorem dX11_freeBits_23 : decode cX11_freeBits 23 = .ok (.getfield 34, 3) := by decide +kernel
theorem dX11_freeBits_26 : decode cX11_freeBits 26 = .ok (.iload_n 1, 1) := by decide +kernel
theorem dX11_freeBits_27 : decode cX11_freeBits 27 = .ok (.iaload, 1) := by decide +kernel
theorem dX11_freeBits_28 : decode cX11_freeBits 28 = .ok (.if_icmp .ge 60, 3) := by decide +kernel
theorem dX11_freeBits_31 : decode cX11_freeBits 31 = .ok (.iconst 0, 1) := by decide +kernel
theorem dX11_freeBits_32 : decode cX11_freeBits 32 = .ok (.istore 4, 2) := by decide +kernel
theorem dX11_freeBits_34 : decode cX11_freeBits 34 = .ok (.iload 4, 2) := by decide +kernel
theorem dX11_freeBits_36 : decode cX11_freeBits 36 = .ok (.iload_n 3, 1) := by decide +kernel
theorem dX11_freeBits_37 : decode cX11_freeBits 37 = .ok (.if_icmp .ge 45, 3) := by decide +kernel
theorem dX11_freeBits_40 : decode cX11_freeBits 40 = .ok (.aload_n 0, 1) := by decide +kernel
theorem dX11_freeBits_41 : decode cX11_freeBits 41 = .ok (.getfield 37, 3) := by decide +kernel
theorem dX11_freeBits_44 : decode cX11_freeBits 44 = .ok (.iload_n 1, 1) := by decide +kernel
theorem dX11_freeBits_45 : decode cX11_freeBits 45 = .ok (.iaload, 1) := by decide +kernel
theorem dX11_freeBits_46 : decode cX11_freeBits 46 = .ok (.iload 4, 2) := by decide +kernel
theorem dX11_freeBits_48 : decode cX11_freeBits 48 = .ok (.ishr, 1) := by decide +kernel
theorem dX11_freeBits_49 : decode cX11_freeBits 49 = .ok (.iconst 1, 1) := by decide +kernel
theorem dX11_freeBits_50 : decode cX11_freeBits 50 = .ok (.iand, 1) := by decide +kernel
theorem dX11_freeBits_51 : decode cX11_freeBits 51 = .ok (.aload_n 0, 1) := by decide +kernel
theorem dX11_freeBits_52 : decode cX11_freeBits 52 = .ok (.getfield 37, 3) := by decide +kernel
theorem dX11_freeBits_55 : decode cX11_freeBits 55 = .ok (.iload_n 1, 1) := by decide +kernel
theorem dX11_freeBits_56 : decode cX11_freeBits 56 = .ok (.iaload, 1) := by decide +kernel
theorem dX11_freeBits_57 : decode cX11_freeBits 57 = .ok (.iload_n 3, 1) := by decide +kernel
theorem dX11_freeBits_58 : decode cX11_freeBits 58 = .ok (.ishr, 1) := by decide +kernel
theorem dX11_freeBits_59 : decode cX11_freeBits 59 = .ok (.iconst 1, 1) := by decide +kernel
theorem dX11_freeBits_60 : decode cX11_freeBits 60 = .ok (.iand, 1) := by decide +kernel
theorem dX11_freeBits_61 : decode cX11_freeBits 61 = .ok (.iadd, 1) := by decide +kernel
theorem dX11_freeBits_62 : decode cX11_freeBits 62 = .ok (.ifCond .le 14, 3) := by decide +kernel
theorem dX11_freeBits_65 : decode cX11_freeBits 65 = .ok (.iload_n 2, 1) := by decide +kernel
theorem dX11_freeBits_66 : decode cX11_freeBits 66 = .ok (.iconst 1, 1) := by decide +kernel
theorem dX11_freeBits_67 : decode cX11_freeBits 67 = .ok (.iload 4, 2) := by decide +kernel
theorem dX11_freeBits_69 : decode cX11_freeBits 69 = .ok (.iload_n 3, 1) := by decide +kernel
theorem dX11_freeBits_70 : decode cX11_freeBits 70 = .ok (.invokestatic 330, 3) := by decide +kernel
theorem dX11_freeBits_73 : decode cX11_freeBits 73 = .ok (.ishl, 1) := by decide +kernel
theorem dX11_freeBits_74 : decode cX11_freeBits 74 = .ok (.ior, 1) := by decide +kernel
theorem dX11_freeBits_75 : decode cX11_freeBits 75 = .ok (.istore_n 2, 1) := by decide +kernel
theorem dX11_freeBits_76 : decode cX11_freeBits 76 = .ok (.iinc 4 1, 3) := by decide +kernel
theorem dX11_freeBits_79 : decode cX11_freeBits 79 = .ok (.goto (-45), 3) := by decide +kernel
theorem dX11_freeBits_82 : decode cX11_freeBits 82 = .ok (.iinc 3 1, 3) := by decide +kernel
theorem dX11_freeBits_85 : decode cX11_freeBits 85 = .ok (.goto (-64), 3) := by decide +kernel
theorem dX11_freeBits_88 : decode cX11_freeBits 88 = .ok (.iload_n 2, 1) := by decide +kernel
theorem dX11_freeBits_89 : decode cX11_freeBits 89 = .ok (.ireturn, 1) := by decide +kernel
theorem dX11_areSame_0 : decode cX11_areSame 0 = .ok (.iload_n 0, 1) := by decide +kernel
theorem dX11_areSame_1 : decode cX11_areSame 1 = .ok (.iload_n 1, 1) := by decide +kernel
theorem dX11_areSame_2 : decode cX11_areSame 2 = .ok (.ixor, 1) := by decide +kernel
theorem dX11_areSame_3 : decode cX11_areSame 3 = .ok (.istore 5, 2) := by decide +kernel
theorem dX11_areSame_5 : decode cX11_areSame 5 = .ok (.iload_n 2, 1) := by decide +kernel
theorem dX11_areSame_6 : decode cX11_areSame 6 = .ok (.ifCond .ne 16, 3) := by decide +kernel
theorem dX11_areSame_9 : decode cX11_areSame 9 = .ok (.iload 5, 2) := by decide +kernel
theorem dX11_areSame_11 : decode cX11_areSame 11 = .ok (.ifCond .ne 7, 3) := by decide +kernel
theorem dX11_areSame_14 : decode cX11_areSame 14 = .ok (.iconst 1, 1) := by decide +kernel
theorem dX11_areSame_15 : decode cX11_areSame 15 = .ok (.goto 44, 3) := by decide +kernel
theorem dX11_areSame_18 : decode cX11_areSame 18 = .ok (.iconst 0, 1) := by decide +kernel
theorem dX11_areSame_19 : decode cX11_areSame 19 = .ok (.goto 40, 3) := by decide +kernel
theorem dX11_areSame_22 : decode cX11_areSame 22 = .ok (.iload_n 2, 1) := by decide +kernel
theorem dX11_areSame_23 : decode cX11_areSame 23 = .ok (.iconst 1, 1) := by decide +kernel
theorem dX11_areSame_24 : decode cX11_areSame 24 = .ok (.if_icmp .ne 20, 3) := by decide +kernel
theorem dX11_areSame_27 : decode cX11_areSame 27 = .ok (.iload 5, 2) := by decide +kernel
theorem dX11_areSame_29 : decode cX11_areSame 29 = .ok (.iload_n 3, 1) := by decide +kernel
theorem dX11_areSame_30 : decode cX11_areSame 30 = .ok (.iconst (-1), 1) := by decide +kernel
theorem dX11_areSame_31 : decode cX11_areSame 31 = .ok (.ixor, 1) := by decide +kernel
theorem dX11_areSame_32 : decode cX11_areSame 32 = .ok (.iand, 1) := by decide +kernel
theorem dX11_areSame_33 : decode cX11_areSame 33 = .ok (.ifCond .ne 7, 3) := by decide +kernel
theorem dX11_areSame_36 : decode cX11_areSame 36 = .ok (.iconst 1, 1) := by decide +kernel
theorem dX11_areSame_37 : decode cX11_areSame 37 = .ok (.goto 22, 3) := by decide +kernel
theorem dX11_areSame_40 : decode cX11_areSame 40 = .ok (.iconst 0, 1) := by decide +kernel
theorem dX11_areSame_41 : decode cX11_areSame 41 = .ok (.goto 18, 3) := by decide +kernel
theorem dX11_areSame_44 : decode cX11_areSame 44 = .ok (.iload 5, 2) := by decide +kernel
theorem dX11_areSame_46 : decode cX11_areSame 46 = .ok (.invokestatic 324, 3) := by decide +kernel
theorem dX11_areSame_49 : decode cX11_areSame 49 = .ok (.iload 4, 2) := by decide +kernel
theorem dX11_areSame_51 : decode cX11_areSame 51 = .ok (.if_icmp .ge 7, 3) := by decide +kernel
theorem dX11_areSame_54 : decode cX11_areSame 54 = .ok (.iconst 1, 1) := by decide +kernel
theorem dX11_areSame_55 : decode cX11_areSame 55 = .ok (.goto 4, 3) := by decide +kernel
theorem dX11_areSame_58 : decode cX11_areSame 58 = .ok (.iconst 0, 1) := by decide +kernel
theorem dX11_areSame_59 : decode cX11_areSame 59 = .ok (.ireturn, 1) := by decide +kernel
theorem dX11_alike_0 : decode cX11_alike 0 = .ok (.iload_n 2, 1) := by decide +kernel
theorem dX11_alike_1 : decode cX11_alike 1 = .ok (.iload_n 3, 1) := by decide +kernel
theorem dX11_alike_2 : decode cX11_alike 2 = .ok (.aload_n 0, 1) := by decide +kernel
theorem dX11_alike_3 : decode cX11_alike 3 = .ok (.getfield 28, 3) := by decide +kernel
theorem dX11_alike_6 : decode cX11_alike 6 = .ok (.iload_n 1, 1) := by decide +kernel
theorem dX11_alike_7 : decode cX11_alike 7 = .ok (.iaload, 1) := by decide +kernel
theorem dX11_alike_8 : decode cX11_alike 8 = .ok (.aload_n 0, 1) := by decide +kernel
theorem dX11_alike_9 : decode cX11_alike 9 = .ok (.getfield 28, 3) := by decide +kernel
theorem dX11_alike_12 : decode cX11_alike 12 = .ok (.iload_n 1, 1) := by decide +kernel
theorem dX11_alike_13 : decode cX11_alike 13 = .ok (.iaload, 1) := by decide +kernel
theorem dX11_alike_14 : decode cX11_alike 14 = .ok (.iconst 1, 1) := by decide +kernel
theorem dX11_alike_15 : decode cX11_alike 15 = .ok (.if_icmp .ne 11, 3) := by decide +kernel
theorem dX11_alike_18 : decode cX11_alike 18 = .ok (.aload_n 0, 1) := by decide +kernel
theorem dX11_alike_19 : decode cX11_alike 19 = .ok (.iload_n 1, 1) := by decide +kernel
theorem dX11_alike_20 : decode cX11_alike 20 = .ok (.invokevirtual 342, 3) := by decide +kernel
theorem dX11_alike_23 : decode cX11_alike 23 = .ok (.goto 4, 3) := by decide +kernel
theorem dX11_alike_26 : decode cX11_alike 26 = .ok (.iconst 0, 1) := by decide +kernel
theorem dX11_alike_27 : decode cX11_alike 27 = .ok (.aload_n 0, 1) := by decide +kernel
theorem dX11_alike_28 : decode cX11_alike 28 = .ok (.getfield 31, 3) := by decide +kernel
theorem dX11_alike_31 : decode cX11_alike 31 = .ok (.iload_n 1, 1) := by decide +kernel
theorem dX11_alike_32 : decode cX11_alike 32 = .ok (.iaload, 1) := by decide +kernel
theorem dX11_alike_33 : decode cX11_alike 33 = .ok (.invokestatic 345, 3) := by decide +kernel
theorem dX11_alike_36 : decode cX11_alike 36 = .ok (.ireturn, 1) := by decide +kernel
theorem dX11_markOf_0 : decode cX11_markOf 0 = .ok (.aload_n 0, 1) := by decide +kernel
theorem dX11_markOf_1 : decode cX11_markOf 1 = .ok (.getfield 67, 3) := by decide +kernel
theorem dX11_markOf_4 : decode cX11_markOf 4 = .ok (.sipush 2000, 3) := by decide +kernel
theorem dX11_markOf_7 : decode cX11_markOf 7 = .ok (.iload_n 1, 1) := by decide +kernel
theorem dX11_markOf_8 : decode cX11_markOf 8 = .ok (.imul, 1) := by decide +kernel
theorem dX11_markOf_9 : decode cX11_markOf 9 = .ok (.iload_n 2, 1) := by decide +kernel
theorem dX11_markOf_10 : decode cX11_markOf 10 = .ok (.iadd, 1) := by decide +kernel
theorem dX11_markOf_11 : decode cX11_markOf 11 = .ok (.iaload, 1) := by decide +kernel
theorem dX11_markOf_12 : decode cX11_markOf 12 = .ok (.ireturn, 1) := by decide +kernel
theorem dX11_spend_0 : decode cX11_spend 0 = .ok (.aload_n 0, 1) := by decide +kernel
theorem dX11_spend_1 : decode cX11_spend 1 = .ok (.getfield 28, 3) := by decide +kernel
theorem dX11_spend_4 : decode cX11_spend 4 = .ok (.iload_n 1, 1) := by decide +kernel
theorem dX11_spend_5 : decode cX11_spend 5 = .ok (.iaload, 1) := by decide +kernel
theorem dX11_spend_6 : decode cX11_spend 6 = .ok (.iconst 1, 1) := by decide +kernel
theorem dX11_spend_7 : decode cX11_spend 7 = .ok (.if_icmp .ne 11, 3) := by decide +kernel
theorem dX11_spend_10 : decode cX11_spend 10 = .ok (.aload_n 0, 1) := by decide +kernel
theorem dX11_spend_11 : decode cX11_spend 11 = .ok (.iload_n 1, 1) := by decide +kernel
theorem dX11_spend_12 : decode cX11_spend 12 = .ok (.invokevirtual 342, 3) := by decide +kernel
theorem dX11_spend_15 : decode cX11_spend 15 = .ok (.goto 4, 3) := by decide +kernel
theorem dX11_spend_18 : decode cX11_spend 18 = .ok (.iconst 0, 1) := by decide +kernel
theorem dX11_spend_19 : decode cX11_spend 19 = .ok (.istore 5, 2) := by decide +kernel
theorem dX11_spend_21 : decode cX11_spend 21 = .ok (.iconst 0, 1) := by decide +kernel
theorem dX11_spend_22 : decode cX11_spend 22 = .ok (.istore 6, 2) := by decide +kernel
theorem dX11_spend_24 : decode cX11_spend 24 = .ok (.iload 6, 2) := by decide +kernel
theorem dX11_spend_26 : decode cX11_spend 26 = .ok (.aload_n 0, 1) := by decide +kernel
theorem dX11_spend_27 : decode cX11_spend 27 = .ok (.getfield 61, 3) := by decide +kernel
theorem dX11_spend_30 : decode cX11_spend 30 = .ok (.iload_n 1, 1) := by decide +kernel
theorem dX11_spend_31 : decode cX11_spend 31 = .ok (.iaload, 1) := by decide +kernel
theorem dX11_spend_32 : decode cX11_spend 32 = .ok (.if_icmp .ge 50, 3) := by decide +kernel
theorem dX11_spend_35 : decode cX11_spend 35 = .ok (.aload_n 0, 1) := by decide +kernel
theorem dX11_spend_36 : decode cX11_spend 36 = .ok (.iload_n 1, 1) := by decide +kernel
theorem dX11_spend_37 : decode cX11_spend 37 = .ok (.iload 6, 2) := by decide +kernel
theorem dX11_spend_39 : decode cX11_spend 39 = .ok (.invokevirtual 349, 3) := by decide +kernel
theorem dX11_spend_42 : decode cX11_spend 42 = .ok (.aload_n 0, 1) := by decide +kernel
theorem dX11_spend_43 : decode cX11_spend 43 = .ok (.iload_n 1, 1) := by decide +kernel
theorem dX11_spend_44 : decode cX11_spend 44 = .ok (.iload_n 2, 1) := by decide +kernel
theorem dX11_spend_45 : decode cX11_spend 45 = .ok (.invokevirtual 349, 3) := by decide +kernel
theorem dX11_spend_48 : decode cX11_spend 48 = .ok (.aload_n 0, 1) := by decide +kernel
theorem dX11_spend_49 : decode cX11_spend 49 = .ok (.getfield 28, 3) := by decide +kernel
theorem dX11_spend_52 : decode cX11_spend 52 = .ok (.iload_n 1, 1) := by decide +kernel
theorem dX11_spend_53 : decode cX11_spend 53 = .ok (.iaload, 1) := by decide +kernel
theorem dX11_spend_54 : decode cX11_spend 54 = .ok (.iload 5, 2) := by decide +kernel
theorem dX11_spend_56 : decode cX11_spend 56 = .ok (.aload_n 0, 1) := by decide +kernel
theorem dX11_spend_57 : decode cX11_spend 57 = .ok (.getfield 31, 3) := by decide +kernel
theorem dX11_spend_60 : decode cX11_spend 60 = .ok (.iload_n 1, 1) := by decide +kernel
theorem dX11_spend_61 : decode cX11_spend 61 = .ok (.iaload, 1) := by decide +kernel
theorem dX11_spend_62 : decode cX11_spend 62 = .ok (.invokestatic 345, 3) := by decide +kernel
theorem dX11_spend_65 : decode cX11_spend 65 = .ok (.ifCond .eq 11, 3) := by decide +kernel
theorem dX11_spend_68 : decode cX11_spend 68 = .ok (.aload_n 3, 1) := by decide +kernel
theorem dX11_spend_69 : decode cX11_spend 69 = .ok (.iload 4, 2) := by decide +kernel
theorem dX11_spend_71 : decode cX11_spend 71 = .ok (.iload 6, 2) := by decide +kernel
theorem dX11_spend_73 : decode cX11_spend 73 = .ok (.iadd, 1) := by decide +kernel
theorem dX11_spend_74 : decode cX11_spend 74 = .ok (.iconst 1, 1) := by decide +kernel
theorem dX11_spend_75 : decode cX11_spend 75 = .ok (.bastore, 1) := by decide +kernel
theorem dX11_spend_76 : decode cX11_spend 76 = .ok (.iinc 6 1, 3) := by decide +kernel
theorem dX11_spend_79 : decode cX11_spend 79 = .ok (.goto (-55), 3) := by decide +kernel
theorem dX11_spend_82 : decode cX11_spend 82 = .ok (.return_, 1) := by decide +kernel
theorem dX11_tellSpent_0 : decode cX11_tellSpent 0 = .ok (.iconst 0, 1) := by decide +kernel
theorem dX11_tellSpent_1 : decode cX11_tellSpent 1 = .ok (.istore_n 2, 1) := by decide +kernel
theorem dX11_tellSpent_2 : decode cX11_tellSpent 2 = .ok (.iload_n 2, 1) := by decide +kernel
theorem dX11_tellSpent_3 : decode cX11_tellSpent 3 = .ok (.aload_n 0, 1) := by decide +kernel
theorem dX11_tellSpent_4 : decode cX11_tellSpent 4 = .ok (.getfield 61, 3) := by decide +kernel
theorem dX11_tellSpent_7 : decode cX11_tellSpent 7 = .ok (.iload_n 1, 1) := by decide +kernel
theorem dX11_tellSpent_8 : decode cX11_tellSpent 8 = .ok (.iaload, 1) := by decide +kernel
theorem dX11_tellSpent_9 : decode cX11_tellSpent 9 = .ok (.if_icmp .ge 22, 3) := by decide +kernel
theorem dX11_tellSpent_12 : decode cX11_tellSpent 12 = .ok (.aload_n 0, 1) := by decide +kernel
theorem dX11_tellSpent_13 : decode cX11_tellSpent 13 = .ok (.getfield 70, 3) := by decide +kernel
theorem dX11_tellSpent_16 : decode cX11_tellSpent 16 = .ok (.sipush 2000, 3) := by decide +kernel
theorem dX11_tellSpent_19 : decode cX11_tellSpent 19 = .ok (.iload_n 1, 1) := by decide +kernel
theorem dX11_tellSpent_20 : decode cX11_tellSpent 20 = .ok (.imul, 1) := by decide +kernel
theorem dX11_tellSpent_21 : decode cX11_tellSpent 21 = .ok (.iload_n 2, 1) := by decide +kernel
theorem dX11_tellSpent_22 : decode cX11_tellSpent 22 = .ok (.iadd, 1) := by decide +kernel
theorem dX11_tellSpent_23 : decode cX11_tellSpent 23 = .ok (.iconst 0, 1) := by decide +kernel
theorem dX11_tellSpent_24 : decode cX11_tellSpent 24 = .ok (.bastore, 1) := by decide +kernel
theorem dX11_tellSpent_25 : decode cX11_tellSpent 25 = .ok (.iinc 2 1, 3) := by decide +kernel
theorem dX11_tellSpent_28 : decode cX11_tellSpent 28 = .ok (.goto (-26), 3) := by decide +kernel
theorem dX11_tellSpent_31 : decode cX11_tellSpent 31 = .ok (.iconst 0, 1) := by decide +kernel
theorem dX11_tellSpent_32 : decode cX11_tellSpent 32 = .ok (.istore_n 2, 1) := by decide +kernel
theorem dX11_tellSpent_33 : decode cX11_tellSpent 33 = .ok (.iload_n 2, 1) := by decide +kernel
theorem dX11_tellSpent_34 : decode cX11_tellSpent 34 = .ok (.aload_n 0, 1) := by decide +kernel
theorem dX11_tellSpent_35 : decode cX11_tellSpent 35 = .ok (.getfield 293, 3) := by decide +kernel
theorem dX11_tellSpent_38 : decode cX11_tellSpent 38 = .ok (.if_icmp .ge 39, 3) := by decide +kernel
theorem dX11_tellSpent_41 : decode cX11_tellSpent 41 = .ok (.aload_n 0, 1) := by decide +kernel
theorem dX11_tellSpent_42 : decode cX11_tellSpent 42 = .ok (.getfield 74, 3) := by decide +kernel
theorem dX11_tellSpent_45 : decode cX11_tellSpent 45 = .ok (.iload_n 2, 1) := by decide +kernel
theorem dX11_tellSpent_46 : decode cX11_tellSpent 46 = .ok (.iaload, 1) := by decide +kernel
theorem dX11_tellSpent_47 : decode cX11_tellSpent 47 = .ok (.iload_n 1, 1) := by decide +kernel
theorem dX11_tellSpent_48 : decode cX11_tellSpent 48 = .ok (.if_icmp .ne 23, 3) := by decide +kernel
theorem dX11_tellSpent_51 : decode cX11_tellSpent 51 = .ok (.aload_n 0, 1) := by decide +kernel
theorem dX11_tellSpent_52 : decode cX11_tellSpent 52 = .ok (.iload_n 1, 1) := by decide +kernel
theorem dX11_tellSpent_53 : decode cX11_tellSpent 53 = .ok (.aload_n 0, 1) := by decide +kernel
theorem dX11_tellSpent_54 : decode cX11_tellSpent 54 = .ok (.getfield 77, 3) := by decide +kernel
theorem dX11_tellSpent_57 : decode cX11_tellSpent 57 = .ok (.iload_n 2, 1) := by decide +kernel
theorem dX11_tellSpent_58 : decode cX11_tellSpent 58 = .ok (.iaload, 1) := by decide +kernel
theorem dX11_tellSpent_59 : decode cX11_tellSpent 59 = .ok (.aload_n 0, 1) := by decide +kernel
theorem dX11_tellSpent_60 : decode cX11_tellSpent 60 = .ok (.getfield 70, 3) := by decide +kernel
theorem dX11_tellSpent_63 : decode cX11_tellSpent 63 = .ok (.sipush 2000, 3) := by decide +kernel
theorem dX11_tellSpent_66 : decode cX11_tellSpent 66 = .ok (.iload_n 1, 1) := by decide +kernel
theorem dX11_tellSpent_67 : decode cX11_tellSpent 67 = .ok (.imul, 1) := by decide +kernel
theorem dX11_tellSpent_68 : decode cX11_tellSpent 68 = .ok (.invokevirtual 352, 3) := by decide +kernel
theorem dX11_tellSpent_71 : decode cX11_tellSpent 71 = .ok (.iinc 2 1, 3) := by decide +kernel
theorem dX11_tellSpent_74 : decode cX11_tellSpent 74 = .ok (.goto (-41), 3) := by decide +kernel
theorem dX11_tellSpent_77 : decode cX11_tellSpent 77 = .ok (.return_, 1) := by decide +kernel
theorem dX11_fault_0 : decode cX11_fault 0 = .ok (.aload_n 0, 1) := by decide +kernel
theorem dX11_fault_1 : decode cX11_fault 1 = .ok (.iconst 0, 1) := by decide +kernel
theorem dX11_fault_2 : decode cX11_fault 2 = .ok (.putfield 154, 3) := by decide +kernel
theorem dX11_fault_5 : decode cX11_fault 5 = .ok (.aload_n 0, 1) := by decide +kernel
theorem dX11_fault_6 : decode cX11_fault 6 = .ok (.getfield 101, 3) := by decide +kernel
theorem dX11_fault_9 : decode cX11_fault 9 = .ok (.ireturn, 1) := by decide +kernel
theorem dX11_count_0 : decode cX11_count 0 = .ok (.aload_n 0, 1) := by decide +kernel
theorem dX11_count_1 : decode cX11_count 1 = .ok (.iconst 0, 1) := by decide +kernel
theorem dX11_count_2 : decode cX11_count 2 = .ok (.putfield 154, 3) := by decide +kernel
theorem dX11_count_5 : decode cX11_count 5 = .ok (.iload_n 1, 1) := by decide +kernel
theorem dX11_count_6 : decode cX11_count 6 = .ok (.ifCond .ne 10, 3) := by decide +kernel
theorem dX11_count_9 : decode cX11_count 9 = .ok (.aload_n 0, 1) := by decide +kernel
theorem dX11_count_10 : decode cX11_count 10 = .ok (.getfield 157, 3) := by decide +kernel
theorem dX11_count_13 : decode cX11_count 13 = .ok (.goto 53, 3) := by decide +kernel
theorem dX11_count_16 : decode cX11_count 16 = .ok (.iload_n 1, 1) := by decide +kernel
theorem dX11_count_17 : decode cX11_count 17 = .ok (.iconst 1, 1) := by decide +kernel
theorem dX11_count_18 : decode cX11_count 18 = .ok (.if_icmp .ne 10, 3) := by decide +kernel
theorem dX11_count_21 : decode cX11_count 21 = .ok (.aload_n 0, 1) := by decide +kernel
theorem dX11_count_22 : decode cX11_count 22 = .ok (.getfield 168, 3) := by decide +kernel
theorem dX11_count_25 : decode cX11_count 25 = .ok (.goto 41, 3) := by decide +kernel
theorem dX11_count_28 : decode cX11_count 28 = .ok (.iload_n 1, 1) := by decide +kernel
theorem dX11_count_29 : decode cX11_count 29 = .ok (.iconst 2, 1) := by decide +kernel
theorem dX11_count_30 : decode cX11_count 30 = .ok (.if_icmp .ne 10, 3) := by decide +kernel
theorem dX11_count_33 : decode cX11_count 33 = .ok (.aload_n 0, 1) := by decide +kernel
theorem dX11_count_34 : decode cX11_count 34 = .ok (.getfield 293, 3) := by decide +kernel
theorem dX11_count_37 : decode cX11_count 37 = .ok (.goto 29, 3) := by decide +kernel
theorem dX11_count_40 : decode cX11_count 40 = .ok (.iload_n 1, 1) := by decide +kernel
theorem dX11_count_41 : decode cX11_count 41 = .ok (.iconst 3, 1) := by decide +kernel
theorem dX11_count_42 : decode cX11_count 42 = .ok (.bipush 6, 2) := by decide +kernel
theorem dX11_count_44 : decode cX11_count 44 = .ok (.invokestatic 160, 3) := by decide +kernel
theorem dX11_count_47 : decode cX11_count 47 = .ok (.ifCond .eq 14, 3) := by decide +kernel
theorem dX11_count_50 : decode cX11_count 50 = .ok (.aload_n 0, 1) := by decide +kernel
theorem dX11_count_51 : decode cX11_count 51 = .ok (.getfield 95, 3) := by decide +kernel
theorem dX11_count_54 : decode cX11_count 54 = .ok (.iload_n 1, 1) := by decide +kernel
theorem dX11_count_55 : decode cX11_count 55 = .ok (.iconst 3, 1) := by decide +kernel
theorem dX11_count_56 : decode cX11_count 56 = .ok (.isub, 1) := by decide +kernel
theorem dX11_count_57 : decode cX11_count 57 = .ok (.iaload, 1) := by decide +kernel
theorem dX11_count_58 : decode cX11_count 58 = .ok (.goto 8, 3) := by decide +kernel
theorem dX11_count_61 : decode cX11_count 61 = .ok (.aload_n 0, 1) := by decide +kernel
theorem dX11_count_62 : decode cX11_count 62 = .ok (.iconst 1, 1) := by decide +kernel
theorem dX11_count_63 : decode cX11_count 63 = .ok (.invokevirtual 287, 3) := by decide +kernel
theorem dX11_count_66 : decode cX11_count 66 = .ok (.ireturn, 1) := by decide +kernel
theorem dX11_leftOf_0 : decode cX11_leftOf 0 = .ok (.iconst 0, 1) := by decide +kernel
theorem dX11_leftOf_1 : decode cX11_leftOf 1 = .ok (.istore_n 2, 1) := by decide +kernel
theorem dX11_leftOf_2 : decode cX11_leftOf 2 = .ok (.iconst 0, 1) := by decide +kernel
theorem dX11_leftOf_3 : decode cX11_leftOf 3 = .ok (.istore_n 3, 1) := by decide +kernel
theorem dX11_leftOf_4 : decode cX11_leftOf 4 = .ok (.iload_n 3, 1) := by decide +kernel
theorem dX11_leftOf_5 : decode cX11_leftOf 5 = .ok (.aload_n 0, 1) := by decide +kernel
theorem dX11_leftOf_6 : decode cX11_leftOf 6 = .ok (.getfield 61, 3) := by decide +kernel
theorem dX11_leftOf_9 : decode cX11_leftOf 9 = .ok (.iload_n 1, 1) := by decide +kernel
theorem dX11_leftOf_10 : decode cX11_leftOf 10 = .ok (.iaload, 1) := by decide +kernel
theorem dX11_leftOf_11 : decode cX11_leftOf 11 = .ok (.if_icmp .ge 32, 3) := by decide +kernel
theorem dX11_leftOf_14 : decode cX11_leftOf 14 = .ok (.iload_n 2, 1) := by decide +kernel
theorem dX11_leftOf_15 : decode cX11_leftOf 15 = .ok (.aload_n 0, 1) := by decide +kernel
theorem dX11_leftOf_16 : decode cX11_leftOf 16 = .ok (.getfield 70, 3) := by decide +kernel
theorem dX11_leftOf_19 : decode cX11_leftOf 19 = .ok (.sipush 2000, 3) := by decide +kernel
theorem dX11_leftOf_22 : decode cX11_leftOf 22 = .ok (.iload_n 1, 1) := by decide +kernel
theorem dX11_leftOf_23 : decode cX11_leftOf 23 = .ok (.imul, 1) := by decide +kernel
theorem dX11_leftOf_24 : decode cX11_leftOf 24 = .ok (.iload_n 3, 1) := by decide +kernel
theorem dX11_leftOf_25 : decode cX11_leftOf 25 = .ok (.iadd, 1) := by decide +kernel
theorem dX11_leftOf_26 : decode cX11_leftOf 26 = .ok (.baload, 1) := by decide +kernel
theorem dX11_leftOf_27 : decode cX11_leftOf 27 = .ok (.ifCond .eq 7, 3) := by decide +kernel
theorem dX11_leftOf_30 : decode cX11_leftOf 30 = .ok (.iconst 0, 1) := by decide +kernel
theorem dX11_leftOf_31 : decode cX11_leftOf 31 = .ok (.goto 4, 3) := by decide +kernel
theorem dX11_leftOf_34 : decode cX11_leftOf 34 = .ok (.iconst 1, 1) := by decide +kernel
theorem dX11_leftOf_35 : decode cX11_leftOf 35 = .ok (.iadd, 1) := by decide +kernel
theorem dX11_leftOf_36 : decode cX11_leftOf 36 = .ok (.istore_n 2, 1) := by decide +kernel
theorem dX11_leftOf_37 : decode cX11_leftOf 37 = .ok (.iinc 3 1, 3) := by decide +kernel
theorem dX11_leftOf_40 : decode cX11_leftOf 40 = .ok (.goto (-36), 3) := by decide +kernel
theorem dX11_leftOf_43 : decode cX11_leftOf 43 = .ok (.iload_n 2, 1) := by decide +kernel
theorem dX11_leftOf_44 : decode cX11_leftOf 44 = .ok (.ireturn, 1) := by decide +kernel
theorem dX11_doneOf_0 : decode cX11_doneOf 0 = .ok (.iconst 0, 1) := by decide +kernel
theorem dX11_doneOf_1 : decode cX11_doneOf 1 = .ok (.istore_n 2, 1) := by decide +kernel
theorem dX11_doneOf_2 : decode cX11_doneOf 2 = .ok (.iconst 0, 1) := by decide +kernel
theorem dX11_doneOf_3 : decode cX11_doneOf 3 = .ok (.istore_n 3, 1) := by decide +kernel
theorem dX11_doneOf_4 : decode cX11_doneOf 4 = .ok (.iload_n 3, 1) := by decide +kernel
theorem dX11_doneOf_5 : decode cX11_doneOf 5 = .ok (.aload_n 0, 1) := by decide +kernel
theorem dX11_doneOf_6 : decode cX11_doneOf 6 = .ok (.getfield 293, 3) := by decide +kernel
theorem dX11_doneOf_9 : decode cX11_doneOf 9 = .ok (.if_icmp .ge 27, 3) := by decide +kernel
theorem dX11_doneOf_12 : decode cX11_doneOf 12 = .ok (.iload_n 2, 1) := by decide +kernel
theorem dX11_doneOf_13 : decode cX11_doneOf 13 = .ok (.aload_n 0, 1) := by decide +kernel
theorem dX11_doneOf_14 : decode cX11_doneOf 14 = .ok (.getfield 74, 3) := by decide +kernel
theorem dX11_doneOf_17 : decode cX11_doneOf 17 = .ok (.iload_n 3, 1) := by decide +kernel
theorem dX11_doneOf_18 : decode cX11_doneOf 18 = .ok (.iaload, 1) := by decide +kernel
theorem dX11_doneOf_19 : decode cX11_doneOf 19 = .ok (.iload_n 1, 1) := by decide +kernel
theorem dX11_doneOf_20 : decode cX11_doneOf 20 = .ok (.if_icmp .ne 7, 3) := by decide +kernel
theorem dX11_doneOf_23 : decode cX11_doneOf 23 = .ok (.iconst 1, 1) := by decide +kernel
theorem dX11_doneOf_24 : decode cX11_doneOf 24 = .ok (.goto 4, 3) := by decide +kernel
theorem dX11_doneOf_27 : decode cX11_doneOf 27 = .ok (.iconst 0, 1) := by decide +kernel
theorem dX11_doneOf_28 : decode cX11_doneOf 28 = .ok (.iadd, 1) := by decide +kernel
theorem dX11_doneOf_29 : decode cX11_doneOf 29 = .ok (.istore_n 2, 1) := by decide +kernel
theorem dX11_doneOf_30 : decode cX11_doneOf 30 = .ok (.iinc 3 1, 3) := by decide +kernel
theorem dX11_doneOf_33 : decode cX11_doneOf 33 = .ok (.goto (-29), 3) := by decide +kernel
theorem dX11_doneOf_36 : decode cX11_doneOf 36 = .ok (.iload_n 2, 1) := by decide +kernel
theorem dX11_doneOf_37 : decode cX11_doneOf 37 = .ok (.ireturn, 1) := by decide +kernel
theorem dX11_work_0 : decode cX11_work 0 = .ok (.aload_n 0, 1) := by decide +kernel
theorem dX11_work_1 : decode cX11_work 1 = .ok (.iconst 0, 1) := by decide +kernel
theorem dX11_work_2 : decode cX11_work 2 = .ok (.putfield 154, 3) := by decide +kernel
theorem dX11_work_5 : decode cX11_work 5 = .ok (.aload_n 0, 1) := by decide +kernel
theorem dX11_work_6 : decode cX11_work 6 = .ok (.iload_n 1, 1) := by decide +kernel
theorem dX11_work_7 : decode cX11_work 7 = .ok (.invokevirtual 164, 3) := by decide +kernel
theorem dX11_work_10 : decode cX11_work 10 = .ok (.ifCond .ne 9, 3) := by decide +kernel
theorem dX11_work_13 : decode cX11_work 13 = .ok (.aload_n 0, 1) := by decide +kernel
theorem dX11_work_14 : decode cX11_work 14 = .ok (.iconst 1, 1) := by decide +kernel
theorem dX11_work_15 : decode cX11_work 15 = .ok (.invokevirtual 287, 3) := by decide +kernel
theorem dX11_work_18 : decode cX11_work 18 = .ok (.ireturn, 1) := by decide +kernel
theorem dX11_work_19 : decode cX11_work 19 = .ok (.iload_n 2, 1) := by decide +kernel
theorem dX11_work_20 : decode cX11_work 20 = .ok (.tableswitch 124 0 9 #[56, 63, 70, 77, 84, 91, 97, 103, 110, 117], 56) := by decide +kernel
theorem dX11_work_76 : decode cX11_work 76 = .ok (.aload_n 0, 1) := by decide +kernel
theorem dX11_work_77 : decode cX11_work 77 = .ok (.getfield 21, 3) := by decide +kernel
theorem dX11_work_80 : decode cX11_work 80 = .ok (.iload_n 1, 1) := by decide +kernel
theorem dX11_work_81 : decode cX11_work 81 = .ok (.iaload, 1) := by decide +kernel
theorem dX11_work_82 : decode cX11_work 82 = .ok (.ireturn, 1) := by decide +kernel
theorem dX11_work_83 : decode cX11_work 83 = .ok (.aload_n 0, 1) := by decide +kernel
theorem dX11_work_84 : decode cX11_work 84 = .ok (.getfield 61, 3) := by decide +kernel
theorem dX11_work_87 : decode cX11_work 87 = .ok (.iload_n 1, 1) := by decide +kernel
theorem dX11_work_88 : decode cX11_work 88 = .ok (.iaload, 1) := by decide +kernel
theorem dX11_work_89 : decode cX11_work 89 = .ok (.ireturn, 1) := by decide +kernel
theorem dX11_work_90 : decode cX11_work 90 = .ok (.aload_n 0, 1) := by decide +kernel
theorem dX11_work_91 : decode cX11_work 91 = .ok (.getfield 28, 3) := by decide +kernel
theorem dX11_work_94 : decode cX11_work 94 = .ok (.iload_n 1, 1) := by decide +kernel
theorem dX11_work_95 : decode cX11_work 95 = .ok (.iaload, 1) := by decide +kernel
theorem dX11_work_96 : decode cX11_work 96 = .ok (.ireturn, 1) := by decide +kernel
theorem dX11_work_97 : decode cX11_work 97 = .ok (.aload_n 0, 1) := by decide +kernel
theorem dX11_work_98 : decode cX11_work 98 = .ok (.getfield 31, 3) := by decide +kernel
theorem dX11_work_101 : decode cX11_work 101 = .ok (.iload_n 1, 1) := by decide +kernel
theorem dX11_work_102 : decode cX11_work 102 = .ok (.iaload, 1) := by decide +kernel
theorem dX11_work_103 : decode cX11_work 103 = .ok (.ireturn, 1) := by decide +kernel
theorem dX11_work_104 : decode cX11_work 104 = .ok (.aload_n 0, 1) := by decide +kernel
theorem dX11_work_105 : decode cX11_work 105 = .ok (.getfield 34, 3) := by decide +kernel
theorem dX11_work_108 : decode cX11_work 108 = .ok (.iload_n 1, 1) := by decide +kernel
theorem dX11_work_109 : decode cX11_work 109 = .ok (.iaload, 1) := by decide +kernel
theorem dX11_work_110 : decode cX11_work 110 = .ok (.ireturn, 1) := by decide +kernel
theorem dX11_work_111 : decode cX11_work 111 = .ok (.aload_n 0, 1) := by decide +kernel
theorem dX11_work_112 : decode cX11_work 112 = .ok (.iload_n 1, 1) := by decide +kernel
theorem dX11_work_113 : decode cX11_work 113 = .ok (.invokevirtual 356, 3) := by decide +kernel
theorem dX11_work_116 : decode cX11_work 116 = .ok (.ireturn, 1) := by decide +kernel
theorem dX11_work_117 : decode cX11_work 117 = .ok (.aload_n 0, 1) := by decide +kernel
theorem dX11_work_118 : decode cX11_work 118 = .ok (.iload_n 1, 1) := by decide +kernel
theorem dX11_work_119 : decode cX11_work 119 = .ok (.invokevirtual 359, 3) := by decide +kernel
theorem dX11_work_122 : decode cX11_work 122 = .ok (.ireturn, 1) := by decide +kernel
theorem dX11_work_123 : decode cX11_work 123 = .ok (.aload_n 0, 1) := by decide +kernel
theorem dX11_work_124 : decode cX11_work 124 = .ok (.getfield 37, 3) := by decide +kernel
theorem dX11_work_127 : decode cX11_work 127 = .ok (.iload_n 1, 1) := by decide +kernel
theorem dX11_work_128 : decode cX11_work 128 = .ok (.iaload, 1) := by decide +kernel
theorem dX11_work_129 : decode cX11_work 129 = .ok (.ireturn, 1) := by decide +kernel
theorem dX11_work_130 : decode cX11_work 130 = .ok (.aload_n 0, 1) := by decide +kernel
theorem dX11_work_131 : decode cX11_work 131 = .ok (.getfield 80, 3) := by decide +kernel
theorem dX11_work_134 : decode cX11_work 134 = .ok (.iload_n 1, 1) := by decide +kernel
theorem dX11_work_135 : decode cX11_work 135 = .ok (.iaload, 1) := by decide +kernel
theorem dX11_work_136 : decode cX11_work 136 = .ok (.ireturn, 1) := by decide +kernel
theorem dX11_work_137 : decode cX11_work 137 = .ok (.aload_n 0, 1) := by decide +kernel
theorem dX11_work_138 : decode cX11_work 138 = .ok (.getfield 86, 3) := by decide +kernel
theorem dX11_work_141 : decode cX11_work 141 = .ok (.iload_n 1, 1) := by decide +kernel
theorem dX11_work_142 : decode cX11_work 142 = .ok (.iaload, 1) := by decide +kernel
theorem dX11_work_143 : decode cX11_work 143 = .ok (.ireturn, 1) := by decide +kernel
theorem dX11_work_144 : decode cX11_work 144 = .ok (.aload_n 0, 1) := by decide +kernel
theorem dX11_work_145 : decode cX11_work 145 = .ok (.iconst 1, 1) := by decide +kernel
theorem dX11_work_146 : decode cX11_work 146 = .ok (.invokevirtual 287, 3) := by decide +kernel
theorem dX11_work_149 : decode cX11_work 149 = .ok (.ireturn, 1) := by decide +kernel
theorem dX11_leftAt_0 : decode cX11_leftAt 0 = .ok (.iconst 0, 1) := by decide +kernel
theorem dX11_leftAt_1 : decode cX11_leftAt 1 = .ok (.istore_n 3, 1) := by decide +kernel
theorem dX11_leftAt_2 : decode cX11_leftAt 2 = .ok (.iconst 0, 1) := by decide +kernel
theorem dX11_leftAt_3 : decode cX11_leftAt 3 = .ok (.istore 4, 2) := by decide +kernel
theorem dX11_leftAt_5 : decode cX11_leftAt 5 = .ok (.iload 4, 2) := by decide +kernel
theorem dX11_leftAt_7 : decode cX11_leftAt 7 = .ok (.aload_n 0, 1) := by decide +kernel
theorem dX11_leftAt_8 : decode cX11_leftAt 8 = .ok (.getfield 61, 3) := by decide +kernel
theorem dX11_leftAt_11 : decode cX11_leftAt 11 = .ok (.iload_n 1, 1) := by decide +kernel
theorem dX11_leftAt_12 : decode cX11_leftAt 12 = .ok (.iaload, 1) := by decide +kernel
theorem dX11_leftAt_13 : decode cX11_leftAt 13 = .ok (.if_icmp .ge 39, 3) := by decide +kernel
theorem dX11_leftAt_16 : decode cX11_leftAt 16 = .ok (.aload_n 0, 1) := by decide +kernel
theorem dX11_leftAt_17 : decode cX11_leftAt 17 = .ok (.getfield 70, 3) := by decide +kernel
theorem dX11_leftAt_20 : decode cX11_leftAt 20 = .ok (.sipush 2000, 3) := by decide +kernel
theorem dX11_leftAt_23 : decode cX11_leftAt 23 = .ok (.iload_n 1, 1) := by decide +kernel
theorem dX11_leftAt_24 : decode cX11_leftAt 24 = .ok (.imul, 1) := by decide +kernel
theorem dX11_leftAt_25 : decode cX11_leftAt 25 = .ok (.iload 4, 2) := by decide +kernel
theorem dX11_leftAt_27 : decode cX11_leftAt 27 = .ok (.iadd, 1) := by decide +kernel
theorem dX11_leftAt_28 : decode cX11_leftAt 28 = .ok (.baload, 1) := by decide +kernel
theorem dX11_leftAt_29 : decode cX11_leftAt 29 = .ok (.ifCond .eq 6, 3) := by decide +kernel
theorem dX11_leftAt_32 : decode cX11_leftAt 32 = .ok (.goto 14, 3) := by decide +kernel
theorem dX11_leftAt_35 : decode cX11_leftAt 35 = .ok (.iload_n 3, 1) := by decide +kernel
theorem dX11_leftAt_36 : decode cX11_leftAt 36 = .ok (.iload_n 2, 1) := by decide +kernel
theorem dX11_leftAt_37 : decode cX11_leftAt 37 = .ok (.if_icmp .ne 6, 3) := by decide +kernel
theorem dX11_leftAt_40 : decode cX11_leftAt 40 = .ok (.iload 4, 2) := by decide +kernel
theorem dX11_leftAt_42 : decode cX11_leftAt 42 = .ok (.ireturn, 1) := by decide +kernel
theorem dX11_leftAt_43 : decode cX11_leftAt 43 = .ok (.iinc 3 1, 3) := by decide +kernel
theorem dX11_leftAt_46 : decode cX11_leftAt 46 = .ok (.iinc 4 1, 3) := by decide +kernel
theorem dX11_leftAt_49 : decode cX11_leftAt 49 = .ok (.goto (-44), 3) := by decide +kernel
theorem dX11_leftAt_52 : decode cX11_leftAt 52 = .ok (.iconst (-1), 1) := by decide +kernel
theorem dX11_leftAt_53 : decode cX11_leftAt 53 = .ok (.ireturn, 1) := by decide +kernel
theorem dX11_numberLeft_0 : decode cX11_numberLeft 0 = .ok (.aload_n 0, 1) := by decide +kernel
theorem dX11_numberLeft_1 : decode cX11_numberLeft 1 = .ok (.getfield 70, 3) := by decide +kernel
theorem dX11_numberLeft_4 : decode cX11_numberLeft 4 = .ok (.sipush 2000, 3) := by decide +kernel
theorem dX11_numberLeft_7 : decode cX11_numberLeft 7 = .ok (.iload_n 1, 1) := by decide +kernel
theorem dX11_numberLeft_8 : decode cX11_numberLeft 8 = .ok (.imul, 1) := by decide +kernel
theorem dX11_numberLeft_9 : decode cX11_numberLeft 9 = .ok (.iload_n 2, 1) := by decide +kernel
theorem dX11_numberLeft_10 : decode cX11_numberLeft 10 = .ok (.iadd, 1) := by decide +kernel
theorem dX11_numberLeft_11 : decode cX11_numberLeft 11 = .ok (.baload, 1) := by decide +kernel
theorem dX11_numberLeft_12 : decode cX11_numberLeft 12 = .ok (.ifCond .eq 5, 3) := by decide +kernel
theorem dX11_numberLeft_15 : decode cX11_numberLeft 15 = .ok (.iconst (-1), 1) := by decide +kernel
theorem dX11_numberLeft_16 : decode cX11_numberLeft 16 = .ok (.ireturn, 1) := by decide +kernel
theorem dX11_numberLeft_17 : decode cX11_numberLeft 17 = .ok (.iconst 0, 1) := by decide +kernel
theorem dX11_numberLeft_18 : decode cX11_numberLeft 18 = .ok (.istore_n 3, 1) := by decide +kernel
theorem dX11_numberLeft_19 : decode cX11_numberLeft 19 = .ok (.iconst 0, 1) := by decide +kernel
theorem dX11_numberLeft_20 : decode cX11_numberLeft 20 = .ok (.istore 4, 2) := by decide +kernel
theorem dX11_numberLeft_22 : decode cX11_numberLeft 22 = .ok (.iload 4, 2) := by decide +kernel
theorem dX11_numberLeft_24 : decode cX11_numberLeft 24 = .ok (.iload_n 2, 1) := by decide +kernel
theorem dX11_numberLeft_25 : decode cX11_numberLeft 25 = .ok (.if_icmp .ge 33, 3) := by decide +kernel
theorem dX11_numberLeft_28 : decode cX11_numberLeft 28 = .ok (.iload_n 3, 1) := by decide +kernel
theorem dX11_numberLeft_29 : decode cX11_numberLeft 29 = .ok (.aload_n 0, 1) := by decide +kernel
theorem dX11_numberLeft_30 : decode cX11_numberLeft 30 = .ok (.getfield 70, 3) := by decide +kernel
theorem dX11_numberLeft_33 : decode cX11_numberLeft 33 = .ok (.sipush 2000, 3) := by decide +kernel
theorem dX11_numberLeft_36 : decode cX11_numberLeft 36 = .ok (.iload_n 1, 1) := by decide +kernel
theorem dX11_numberLeft_37 : decode cX11_numberLeft 37 = .ok (.imul, 1) := by decide +kernel
theorem dX11_numberLeft_38 : decode cX11_numberLeft 38 = .ok (.iload 4, 2) := by decide +kernel
theorem dX11_numberLeft_40 : decode cX11_numberLeft 40 = .ok (.iadd, 1) := by decide +kernel
theorem dX11_numberLeft_41 : decode cX11_numberLeft 41 = .ok (.baload, 1) := by decide +kernel
theorem dX11_numberLeft_42 : decode cX11_numberLeft 42 = .ok (.ifCond .eq 7, 3) := by decide +kernel
theorem dX11_numberLeft_45 : decode cX11_numberLeft 45 = .ok (.iconst 0, 1) := by decide +kernel
theorem dX11_numberLeft_46 : decode cX11_numberLeft 46 = .ok (.goto 4, 3) := by decide +kernel
theorem dX11_numberLeft_49 : decode cX11_numberLeft 49 = .ok (.iconst 1, 1) := by decide +kernel
theorem dX11_numberLeft_50 : decode cX11_numberLeft 50 = .ok (.iadd, 1) := by decide +kernel
theorem dX11_numberLeft_51 : decode cX11_numberLeft 51 = .ok (.istore_n 3, 1) := by decide +kernel
theorem dX11_numberLeft_52 : decode cX11_numberLeft 52 = .ok (.iinc 4 1, 3) := by decide +kernel
theorem dX11_numberLeft_55 : decode cX11_numberLeft 55 = .ok (.goto (-33), 3) := by decide +kernel
theorem dX11_numberLeft_58 : decode cX11_numberLeft 58 = .ok (.iload_n 3, 1) := by decide +kernel
theorem dX11_numberLeft_59 : decode cX11_numberLeft 59 = .ok (.ireturn, 1) := by decide +kernel
theorem dX11_way_0 : decode cX11_way 0 = .ok (.aload_n 0, 1) := by decide +kernel
theorem dX11_way_1 : decode cX11_way 1 = .ok (.iconst 0, 1) := by decide +kernel
theorem dX11_way_2 : decode cX11_way 2 = .ok (.putfield 154, 3) := by decide +kernel
theorem dX11_way_5 : decode cX11_way 5 = .ok (.aload_n 0, 1) := by decide +kernel
theorem dX11_way_6 : decode cX11_way 6 = .ok (.iload_n 1, 1) := by decide +kernel
theorem dX11_way_7 : decode cX11_way 7 = .ok (.iload_n 2, 1) := by decide +kernel
theorem dX11_way_8 : decode cX11_way 8 = .ok (.invokevirtual 362, 3) := by decide +kernel
theorem dX11_way_11 : decode cX11_way 11 = .ok (.ifCond .eq 12, 3) := by decide +kernel
theorem dX11_way_14 : decode cX11_way 14 = .ok (.iload_n 3, 1) := by decide +kernel
theorem dX11_way_15 : decode cX11_way 15 = .ok (.iconst 0, 1) := by decide +kernel
theorem dX11_way_16 : decode cX11_way 16 = .ok (.iconst 3, 1) := by decide +kernel
theorem dX11_way_17 : decode cX11_way 17 = .ok (.invokestatic 160, 3) := by decide +kernel
theorem dX11_way_20 : decode cX11_way 20 = .ok (.ifCond .ne 9, 3) := by decide +kernel
theorem dX11_way_23 : decode cX11_way 23 = .ok (.aload_n 0, 1) := by decide +kernel
theorem dX11_way_24 : decode cX11_way 24 = .ok (.iconst 1, 1) := by decide +kernel
theorem dX11_way_25 : decode cX11_way 25 = .ok (.invokevirtual 287, 3) := by decide +kernel
theorem dX11_way_28 : decode cX11_way 28 = .ok (.ireturn, 1) := by decide +kernel
theorem dX11_way_29 : decode cX11_way 29 = .ok (.iload_n 3, 1) := by decide +kernel
theorem dX11_way_30 : decode cX11_way 30 = .ok (.tableswitch 67 0 2 #[26, 39, 46], 26) := by decide +kernel
theorem dX11_way_56 : decode cX11_way 56 = .ok (.aload_n 0, 1) := by decide +kernel
theorem dX11_way_57 : decode cX11_way 57 = .ok (.getfield 64, 3) := by decide +kernel
theorem dX11_way_60 : decode cX11_way 60 = .ok (.sipush 2000, 3) := by decide +kernel
theorem dX11_way_63 : decode cX11_way 63 = .ok (.iload_n 1, 1) := by decide +kernel
theorem dX11_way_64 : decode cX11_way 64 = .ok (.imul, 1) := by decide +kernel
theorem dX11_way_65 : decode cX11_way 65 = .ok (.iload_n 2, 1) := by decide +kernel
theorem dX11_way_66 : decode cX11_way 66 = .ok (.iadd, 1) := by decide +kernel
theorem dX11_way_67 : decode cX11_way 67 = .ok (.iaload, 1) := by decide +kernel
theorem dX11_way_68 : decode cX11_way 68 = .ok (.ireturn, 1) := by decide +kernel
theorem dX11_way_69 : decode cX11_way 69 = .ok (.aload_n 0, 1) := by decide +kernel
theorem dX11_way_70 : decode cX11_way 70 = .ok (.iload_n 1, 1) := by decide +kernel
theorem dX11_way_71 : decode cX11_way 71 = .ok (.iload_n 2, 1) := by decide +kernel
theorem dX11_way_72 : decode cX11_way 72 = .ok (.invokevirtual 349, 3) := by decide +kernel
theorem dX11_way_75 : decode cX11_way 75 = .ok (.ireturn, 1) := by decide +kernel
theorem dX11_way_76 : decode cX11_way 76 = .ok (.aload_n 0, 1) := by decide +kernel
theorem dX11_way_77 : decode cX11_way 77 = .ok (.getfield 70, 3) := by decide +kernel
theorem dX11_way_80 : decode cX11_way 80 = .ok (.sipush 2000, 3) := by decide +kernel
theorem dX11_way_83 : decode cX11_way 83 = .ok (.iload_n 1, 1) := by decide +kernel
theorem dX11_way_84 : decode cX11_way 84 = .ok (.imul, 1) := by decide +kernel
theorem dX11_way_85 : decode cX11_way 85 = .ok (.iload_n 2, 1) := by decide +kernel
theorem dX11_way_86 : decode cX11_way 86 = .ok (.iadd, 1) := by decide +kernel
theorem dX11_way_87 : decode cX11_way 87 = .ok (.baload, 1) := by decide +kernel
theorem dX11_way_88 : decode cX11_way 88 = .ok (.ifCond .eq 7, 3) := by decide +kernel
theorem dX11_way_91 : decode cX11_way 91 = .ok (.iconst 1, 1) := by decide +kernel
theorem dX11_way_92 : decode cX11_way 92 = .ok (.goto 4, 3) := by decide +kernel
theorem dX11_way_95 : decode cX11_way 95 = .ok (.iconst 0, 1) := by decide +kernel
theorem dX11_way_96 : decode cX11_way 96 = .ok (.ireturn, 1) := by decide +kernel
theorem dX11_way_97 : decode cX11_way 97 = .ok (.aload_n 0, 1) := by decide +kernel
theorem dX11_way_98 : decode cX11_way 98 = .ok (.iload_n 1, 1) := by decide +kernel
theorem dX11_way_99 : decode cX11_way 99 = .ok (.iload_n 2, 1) := by decide +kernel
theorem dX11_way_100 : decode cX11_way 100 = .ok (.invokevirtual 366, 3) := by decide +kernel
theorem dX11_way_103 : decode cX11_way 103 = .ok (.ireturn, 1) := by decide +kernel
theorem dX11_findOf_0 : decode cX11_findOf 0 = .ok (.iconst 0, 1) := by decide +kernel
theorem dX11_findOf_1 : decode cX11_findOf 1 = .ok (.istore_n 3, 1) := by decide +kernel
theorem dX11_findOf_2 : decode cX11_findOf 2 = .ok (.iload_n 3, 1) := by decide +kernel
theorem dX11_findOf_3 : decode cX11_findOf 3 = .ok (.aload_n 0, 1) := by decide +kernel
theorem dX11_findOf_4 : decode cX11_findOf 4 = .ok (.getfield 61, 3) := by decide +kernel
theorem dX11_findOf_7 : decode cX11_findOf 7 = .ok (.iload_n 1, 1) := by decide +kernel
theorem dX11_findOf_8 : decode cX11_findOf 8 = .ok (.iaload, 1) := by decide +kernel
theorem dX11_findOf_9 : decode cX11_findOf 9 = .ok (.if_icmp .ge 21, 3) := by decide +kernel
theorem dX11_findOf_12 : decode cX11_findOf 12 = .ok (.aload_n 0, 1) := by decide +kernel
theorem dX11_findOf_13 : decode cX11_findOf 13 = .ok (.iload_n 1, 1) := by decide +kernel
theorem dX11_findOf_14 : decode cX11_findOf 14 = .ok (.iload_n 3, 1) := by decide +kernel
theorem dX11_findOf_15 : decode cX11_findOf 15 = .ok (.invokevirtual 349, 3) := by decide +kernel
theorem dX11_findOf_18 : decode cX11_findOf 18 = .ok (.iload_n 2, 1) := by decide +kernel
theorem dX11_findOf_19 : decode cX11_findOf 19 = .ok (.if_icmp .ne 5, 3) := by decide +kernel
theorem dX11_findOf_22 : decode cX11_findOf 22 = .ok (.iload_n 3, 1) := by decide +kernel
theorem dX11_findOf_23 : decode cX11_findOf 23 = .ok (.ireturn, 1) := by decide +kernel
theorem dX11_findOf_24 : decode cX11_findOf 24 = .ok (.iinc 3 1, 3) := by decide +kernel
theorem dX11_findOf_27 : decode cX11_findOf 27 = .ok (.goto (-25), 3) := by decide +kernel
theorem dX11_findOf_30 : decode cX11_findOf 30 = .ok (.iconst (-1), 1) := by decide +kernel
theorem dX11_findOf_31 : decode cX11_findOf 31 = .ok (.ireturn, 1) := by decide +kernel
theorem dX11_find_0 : decode cX11_find 0 = .ok (.aload_n 0, 1) := by decide +kernel
theorem dX11_find_1 : decode cX11_find 1 = .ok (.iconst 0, 1) := by decide +kernel
theorem dX11_find_2 : decode cX11_find 2 = .ok (.putfield 154, 3) := by decide +kernel
theorem dX11_find_5 : decode cX11_find 5 = .ok (.aload_n 0, 1) := by decide +kernel
theorem dX11_find_6 : decode cX11_find 6 = .ok (.iload_n 1, 1) := by decide +kernel
theorem dX11_find_7 : decode cX11_find 7 = .ok (.invokevirtual 164, 3) := by decide +kernel
theorem dX11_find_10 : decode cX11_find 10 = .ok (.ifCond .eq 12, 3) := by decide +kernel
theorem dX11_find_13 : decode cX11_find 13 = .ok (.aload_n 0, 1) := by decide +kernel
theorem dX11_find_14 : decode cX11_find 14 = .ok (.iload_n 1, 1) := by decide +kernel
theorem dX11_find_15 : decode cX11_find 15 = .ok (.iload_n 2, 1) := by decide +kernel
theorem dX11_find_16 : decode cX11_find 16 = .ok (.invokevirtual 369, 3) := by decide +kernel
theorem dX11_find_19 : decode cX11_find 19 = .ok (.goto 8, 3) := by decide +kernel
theorem dX11_find_22 : decode cX11_find 22 = .ok (.aload_n 0, 1) := by decide +kernel
theorem dX11_find_23 : decode cX11_find 23 = .ok (.iconst 1, 1) := by decide +kernel
theorem dX11_find_24 : decode cX11_find 24 = .ok (.invokevirtual 287, 3) := by decide +kernel
theorem dX11_find_27 : decode cX11_find 27 = .ok (.ireturn, 1) := by decide +kernel
theorem dX11_same_0 : decode cX11_same 0 = .ok (.aload_n 0, 1) := by decide +kernel
theorem dX11_same_1 : decode cX11_same 1 = .ok (.iconst 0, 1) := by decide +kernel
theorem dX11_same_2 : decode cX11_same 2 = .ok (.putfield 154, 3) := by decide +kernel
theorem dX11_same_5 : decode cX11_same 5 = .ok (.aload_n 0, 1) := by decide +kernel
theorem dX11_same_6 : decode cX11_same 6 = .ok (.iload_n 1, 1) := by decide +kernel
theorem dX11_same_7 : decode cX11_same 7 = .ok (.iload_n 2, 1) := by decide +kernel
theorem dX11_same_8 : decode cX11_same 8 = .ok (.invokevirtual 362, 3) := by decide +kernel
theorem dX11_same_11 : decode cX11_same 11 = .ok (.ifCond .eq 23, 3) := by decide +kernel
theorem dX11_same_14 : decode cX11_same 14 = .ok (.aload_n 0, 1) := by decide +kernel
theorem dX11_same_15 : decode cX11_same 15 = .ok (.iload_n 1, 1) := by decide +kernel
theorem dX11_same_16 : decode cX11_same 16 = .ok (.iload_n 3, 1) := by decide +kernel
theorem dX11_same_17 : decode cX11_same 17 = .ok (.invokevirtual 362, 3) := by decide +kernel
theorem dX11_same_20 : decode cX11_same 20 = .ok (.ifCond .eq 14, 3) := by decide +kernel
theorem dX11_same_23 : decode cX11_same 23 = .ok (.iload 4, 2) := by decide +kernel
theorem dX11_same_25 : decode cX11_same 25 = .ok (.ifCond .lt 9, 3) := by decide +kernel
theorem dX11_same_28 : decode cX11_same 28 = .ok (.iload 4, 2) := by decide +kernel
theorem dX11_same_30 : decode cX11_same 30 = .ok (.iconst 1, 1) := by decide +kernel
theorem dX11_same_31 : decode cX11_same 31 = .ok (.if_icmp .le 9, 3) := by decide +kernel
theorem dX11_same_34 : decode cX11_same 34 = .ok (.aload_n 0, 1) := by decide +kernel
theorem dX11_same_35 : decode cX11_same 35 = .ok (.iconst 1, 1) := by decide +kernel
theorem dX11_same_36 : decode cX11_same 36 = .ok (.invokevirtual 287, 3) := by decide +kernel
theorem dX11_same_39 : decode cX11_same 39 = .ok (.ireturn, 1) := by decide +kernel
theorem dX11_same_40 : decode cX11_same 40 = .ok (.iload 4, 2) := by decide +kernel
theorem dX11_same_42 : decode cX11_same 42 = .ok (.ifCond .ne 22, 3) := by decide +kernel
theorem dX11_same_45 : decode cX11_same 45 = .ok (.aload_n 0, 1) := by decide +kernel
theorem dX11_same_46 : decode cX11_same 46 = .ok (.iload_n 1, 1) := by decide +kernel
theorem dX11_same_47 : decode cX11_same 47 = .ok (.iload_n 2, 1) := by decide +kernel
theorem dX11_same_48 : decode cX11_same 48 = .ok (.invokevirtual 349, 3) := by decide +kernel
theorem dX11_same_51 : decode cX11_same 51 = .ok (.aload_n 0, 1) := by decide +kernel
theorem dX11_same_52 : decode cX11_same 52 = .ok (.iload_n 1, 1) := by decide +kernel
theorem dX11_same_53 : decode cX11_same 53 = .ok (.iload_n 3, 1) := by decide +kernel
theorem dX11_same_54 : decode cX11_same 54 = .ok (.invokevirtual 349, 3) := by decide +kernel
theorem dX11_same_57 : decode cX11_same 57 = .ok (.ixor, 1) := by decide +kernel
theorem dX11_same_58 : decode cX11_same 58 = .ok (.invokestatic 324, 3) := by decide +kernel
theorem dX11_same_61 : decode cX11_same 61 = .ok (.goto 28, 3) := by decide +kernel
theorem dX11_same_64 : decode cX11_same 64 = .ok (.aload_n 0, 1) := by decide +kernel
theorem dX11_same_65 : decode cX11_same 65 = .ok (.iload_n 1, 1) := by decide +kernel
theorem dX11_same_66 : decode cX11_same 66 = .ok (.aload_n 0, 1) := by decide +kernel
theorem dX11_same_67 : decode cX11_same 67 = .ok (.iload_n 1, 1) := by decide +kernel
theorem dX11_same_68 : decode cX11_same 68 = .ok (.iload_n 2, 1) := by decide +kernel
theorem dX11_same_69 : decode cX11_same 69 = .ok (.invokevirtual 349, 3) := by decide +kernel
theorem dX11_same_72 : decode cX11_same 72 = .ok (.aload_n 0, 1) := by decide +kernel
theorem dX11_same_73 : decode cX11_same 73 = .ok (.iload_n 1, 1) := by decide +kernel
theorem dX11_same_74 : decode cX11_same 74 = .ok (.iload_n 3, 1) := by decide +kernel
theorem dX11_same_75 : decode cX11_same 75 = .ok (.invokevirtual 349, 3) := by decide +kernel
theorem dX11_same_78 : decode cX11_same 78 = .ok (.invokevirtual 372, 3) := by decide +kernel
theorem dX11_same_81 : decode cX11_same 81 = .ok (.ifCond .eq 7, 3) := by decide +kernel
theorem dX11_same_84 : decode cX11_same 84 = .ok (.iconst 1, 1) := by decide +kernel
theorem dX11_same_85 : decode cX11_same 85 = .ok (.goto 4, 3) := by decide +kernel
theorem dX11_same_88 : decode cX11_same 88 = .ok (.iconst 0, 1) := by decide +kernel
theorem dX11_same_89 : decode cX11_same 89 = .ok (.ireturn, 1) := by decide +kernel
theorem dX11_enter_0 : decode cX11_enter 0 = .ok (.aload_n 0, 1) := by decide +kernel
theorem dX11_enter_1 : decode cX11_enter 1 = .ok (.getfield 293, 3) := by decide +kernel
theorem dX11_enter_4 : decode cX11_enter 4 = .ok (.sipush 400, 3) := by decide +kernel
theorem dX11_enter_7 : decode cX11_enter 7 = .ok (.if_icmp .eq 18, 3) := by decide +kernel
theorem dX11_enter_10 : decode cX11_enter 10 = .ok (.aload_n 0, 1) := by decide +kernel
theorem dX11_enter_11 : decode cX11_enter 11 = .ok (.getfield 70, 3) := by decide +kernel
theorem dX11_enter_14 : decode cX11_enter 14 = .ok (.sipush 2000, 3) := by decide +kernel
theorem dX11_enter_17 : decode cX11_enter 17 = .ok (.iload_n 1, 1) := by decide +kernel
theorem dX11_enter_18 : decode cX11_enter 18 = .ok (.imul, 1) := by decide +kernel
theorem dX11_enter_19 : decode cX11_enter 19 = .ok (.iload_n 2, 1) := by decide +kernel
theorem dX11_enter_20 : decode cX11_enter 20 = .ok (.iadd, 1) := by decide +kernel
theorem dX11_enter_21 : decode cX11_enter 21 = .ok (.baload, 1) := by decide +kernel
theorem dX11_enter_22 : decode cX11_enter 22 = .ok (.ifCond .eq 5, 3) := by decide +kernel
theorem dX11_enter_25 : decode cX11_enter 25 = .ok (.iconst 0, 1) := by decide +kernel
theorem dX11_enter_26 : decode cX11_enter 26 = .ok (.ireturn, 1) := by decide +kernel
theorem dX11_enter_27 : decode cX11_enter 27 = .ok (.aload_n 0, 1) := by decide +kernel
theorem dX11_enter_28 : decode cX11_enter 28 = .ok (.getfield 74, 3) := by decide +kernel
theorem dX11_enter_31 : decode cX11_enter 31 = .ok (.aload_n 0, 1) := by decide +kernel
theorem dX11_enter_32 : decode cX11_enter 32 = .ok (.getfield 293, 3) := by decide +kernel
theorem dX11_enter_35 : decode cX11_enter 35 = .ok (.iload_n 1, 1) := by decide +kernel
theorem dX11_enter_36 : decode cX11_enter 36 = .ok (.iastore, 1) := by decide +kernel
theorem dX11_enter_37 : decode cX11_enter 37 = .ok (.aload_n 0, 1) := by decide +kernel
theorem dX11_enter_38 : decode cX11_enter 38 = .ok (.getfield 77, 3) := by decide +kernel
theorem dX11_enter_41 : decode cX11_enter 41 = .ok (.aload_n 0, 1) := by decide +kernel
theorem dX11_enter_42 : decode cX11_enter 42 = .ok (.getfield 293, 3) := by decide +kernel
theorem dX11_enter_45 : decode cX11_enter 45 = .ok (.iload_n 2, 1) := by decide +kernel
theorem dX11_enter_46 : decode cX11_enter 46 = .ok (.iastore, 1) := by decide +kernel
theorem dX11_enter_47 : decode cX11_enter 47 = .ok (.aload_n 0, 1) := by decide +kernel
theorem dX11_enter_48 : decode cX11_enter 48 = .ok (.dup, 1) := by decide +kernel
theorem dX11_enter_49 : decode cX11_enter 49 = .ok (.getfield 293, 3) := by decide +kernel
theorem dX11_enter_52 : decode cX11_enter 52 = .ok (.iconst 1, 1) := by decide +kernel
theorem dX11_enter_53 : decode cX11_enter 53 = .ok (.iadd, 1) := by decide +kernel
theorem dX11_enter_54 : decode cX11_enter 54 = .ok (.putfield 293, 3) := by decide +kernel
theorem dX11_enter_57 : decode cX11_enter 57 = .ok (.aload_n 0, 1) := by decide +kernel
theorem dX11_enter_58 : decode cX11_enter 58 = .ok (.iload_n 1, 1) := by decide +kernel
theorem dX11_enter_59 : decode cX11_enter 59 = .ok (.iload_n 2, 1) := by decide +kernel
theorem dX11_enter_60 : decode cX11_enter 60 = .ok (.aload_n 0, 1) := by decide +kernel
theorem dX11_enter_61 : decode cX11_enter 61 = .ok (.getfield 70, 3) := by decide +kernel
theorem dX11_enter_64 : decode cX11_enter 64 = .ok (.sipush 2000, 3) := by decide +kernel
theorem dX11_enter_67 : decode cX11_enter 67 = .ok (.iload_n 1, 1) := by decide +kernel
theorem dX11_enter_68 : decode cX11_enter 68 = .ok (.imul, 1) := by decide +kernel
theorem dX11_enter_69 : decode cX11_enter 69 = .ok (.invokevirtual 352, 3) := by decide +kernel
theorem dX11_enter_72 : decode cX11_enter 72 = .ok (.iconst 1, 1) := by decide +kernel
theorem dX11_enter_73 : decode cX11_enter 73 = .ok (.ireturn, 1) := by decide +kernel
theorem dX11_done_0 : decode cX11_done 0 = .ok (.aload_n 0, 1) := by decide +kernel
theorem dX11_done_1 : decode cX11_done 1 = .ok (.iconst 0, 1) := by decide +kernel
theorem dX11_done_2 : decode cX11_done 2 = .ok (.putfield 154, 3) := by decide +kernel
theorem dX11_done_5 : decode cX11_done 5 = .ok (.aload_n 0, 1) := by decide +kernel
theorem dX11_done_6 : decode cX11_done 6 = .ok (.iload_n 1, 1) := by decide +kernel
theorem dX11_done_7 : decode cX11_done 7 = .ok (.iload_n 2, 1) := by decide +kernel
theorem dX11_done_8 : decode cX11_done 8 = .ok (.invokevirtual 362, 3) := by decide +kernel
theorem dX11_done_11 : decode cX11_done 11 = .ok (.ifCond .ne 10, 3) := by decide +kernel
theorem dX11_done_14 : decode cX11_done 14 = .ok (.aload_n 0, 1) := by decide +kernel
theorem dX11_done_15 : decode cX11_done 15 = .ok (.iconst 1, 1) := by decide +kernel
theorem dX11_done_16 : decode cX11_done 16 = .ok (.putfield 154, 3) := by decide +kernel
theorem dX11_done_19 : decode cX11_done 19 = .ok (.iconst 0, 1) := by decide +kernel
theorem dX11_done_20 : decode cX11_done 20 = .ok (.ireturn, 1) := by decide +kernel
theorem dX11_done_21 : decode cX11_done 21 = .ok (.aload_n 0, 1) := by decide +kernel
theorem dX11_done_22 : decode cX11_done 22 = .ok (.iload_n 1, 1) := by decide +kernel
theorem dX11_done_23 : decode cX11_done 23 = .ok (.iload_n 2, 1) := by decide +kernel
theorem dX11_done_24 : decode cX11_done 24 = .ok (.invokevirtual 375, 3) := by decide +kernel
theorem dX11_done_27 : decode cX11_done 27 = .ok (.istore_n 3, 1) := by decide +kernel
theorem dX11_done_28 : decode cX11_done 28 = .ok (.aload_n 0, 1) := by decide +kernel
theorem dX11_done_29 : decode cX11_done 29 = .ok (.getfield 95, 3) := by decide +kernel
theorem dX11_done_32 : decode cX11_done 32 = .ok (.iconst 1, 1) := by decide +kernel
theorem dX11_done_33 : decode cX11_done 33 = .ok (.dup2, 1) := by decide +kernel
theorem dX11_done_34 : decode cX11_done 34 = .ok (.iaload, 1) := by decide +kernel
theorem dX11_done_35 : decode cX11_done 35 = .ok (.iload_n 3, 1) := by decide +kernel
theorem dX11_done_36 : decode cX11_done 36 = .ok (.ifCond .eq 7, 3) := by decide +kernel
theorem dX11_done_39 : decode cX11_done 39 = .ok (.iconst 0, 1) := by decide +kernel
theorem dX11_done_40 : decode cX11_done 40 = .ok (.goto 4, 3) := by decide +kernel
theorem dX11_done_43 : decode cX11_done 43 = .ok (.iconst 1, 1) := by decide +kernel
theorem dX11_done_44 : decode cX11_done 44 = .ok (.iadd, 1) := by decide +kernel
theorem dX11_done_45 : decode cX11_done 45 = .ok (.iastore, 1) := by decide +kernel
theorem dX11_done_46 : decode cX11_done 46 = .ok (.iload_n 3, 1) := by decide +kernel
theorem dX11_done_47 : decode cX11_done 47 = .ok (.ireturn, 1) := by decide +kernel
theorem dX11_book_0 : decode cX11_book 0 = .ok (.aload_n 0, 1) := by decide +kernel
theorem dX11_book_1 : decode cX11_book 1 = .ok (.iconst 0, 1) := by decide +kernel
theorem dX11_book_2 : decode cX11_book 2 = .ok (.putfield 154, 3) := by decide +kernel
theorem dX11_book_5 : decode cX11_book 5 = .ok (.iload_n 1, 1) := by decide +kernel
theorem dX11_book_6 : decode cX11_book 6 = .ok (.iconst 0, 1) := by decide +kernel
theorem dX11_book_7 : decode cX11_book 7 = .ok (.aload_n 0, 1) := by decide +kernel
theorem dX11_book_8 : decode cX11_book 8 = .ok (.getfield 293, 3) := by decide +kernel
theorem dX11_book_11 : decode cX11_book 11 = .ok (.iconst 1, 1) := by decide +kernel
theorem dX11_book_12 : decode cX11_book 12 = .ok (.isub, 1) := by decide +kernel
theorem dX11_book_13 : decode cX11_book 13 = .ok (.invokestatic 160, 3) := by decide +kernel
theorem dX11_book_16 : decode cX11_book 16 = .ok (.ifCond .eq 12, 3) := by decide +kernel
theorem dX11_book_19 : decode cX11_book 19 = .ok (.iload_n 2, 1) := by decide +kernel
theorem dX11_book_20 : decode cX11_book 20 = .ok (.ifCond .lt 8, 3) := by decide +kernel
theorem dX11_book_23 : decode cX11_book 23 = .ok (.iload_n 2, 1) := by decide +kernel
theorem dX11_book_24 : decode cX11_book 24 = .ok (.iconst 1, 1) := by decide +kernel
theorem dX11_book_25 : decode cX11_book 25 = .ok (.if_icmp .le 9, 3) := by decide +kernel
theorem dX11_book_28 : decode cX11_book 28 = .ok (.aload_n 0, 1) := by decide +kernel
theorem dX11_book_29 : decode cX11_book 29 = .ok (.iconst 1, 1) := by decide +kernel
theorem dX11_book_30 : decode cX11_book 30 = .ok (.invokevirtual 287, 3) := by decide +kernel
theorem dX11_book_33 : decode cX11_book 33 = .ok (.ireturn, 1) := by decide +kernel
theorem dX11_book_34 : decode cX11_book 34 = .ok (.iload_n 2, 1) := by decide +kernel
theorem dX11_book_35 : decode cX11_book 35 = .ok (.ifCond .ne 12, 3) := by decide +kernel
theorem dX11_book_38 : decode cX11_book 38 = .ok (.aload_n 0, 1) := by decide +kernel
theorem dX11_book_39 : decode cX11_book 39 = .ok (.getfield 74, 3) := by decide +kernel
theorem dX11_book_42 : decode cX11_book 42 = .ok (.iload_n 1, 1) := by decide +kernel
theorem dX11_book_43 : decode cX11_book 43 = .ok (.iaload, 1) := by decide +kernel
theorem dX11_book_44 : decode cX11_book 44 = .ok (.goto 9, 3) := by decide +kernel
theorem dX11_book_47 : decode cX11_book 47 = .ok (.aload_n 0, 1) := by decide +kernel
theorem dX11_book_48 : decode cX11_book 48 = .ok (.getfield 77, 3) := by decide +kernel
theorem dX11_book_51 : decode cX11_book 51 = .ok (.iload_n 1, 1) := by decide +kernel
theorem dX11_book_52 : decode cX11_book 52 = .ok (.iaload, 1) := by decide +kernel
theorem dX11_book_53 : decode cX11_book 53 = .ok (.ireturn, 1) := by decide +kernel
theorem dX11_left_0 : decode cX11_left 0 = .ok (.aload_n 0, 1) := by decide +kernel
theorem dX11_left_1 : decode cX11_left 1 = .ok (.iconst 0, 1) := by decide +kernel
theorem dX11_left_2 : decode cX11_left 2 = .ok (.putfield 154, 3) := by decide +kernel
theorem dX11_left_5 : decode cX11_left 5 = .ok (.aload_n 0, 1) := by decide +kernel
theorem dX11_left_6 : decode cX11_left 6 = .ok (.iload_n 1, 1) := by decide +kernel
theorem dX11_left_7 : decode cX11_left 7 = .ok (.invokevirtual 164, 3) := by decide +kernel
theorem dX11_left_10 : decode cX11_left 10 = .ok (.ifCond .eq 16, 3) := by decide +kernel
theorem dX11_left_13 : decode cX11_left 13 = .ok (.iload_n 2, 1) := by decide +kernel
theorem dX11_left_14 : decode cX11_left 14 = .ok (.ifCond .lt 12, 3) := by decide +kernel
theorem dX11_left_17 : decode cX11_left 17 = .ok (.aload_n 0, 1) := by decide +kernel
theorem dX11_left_18 : decode cX11_left 18 = .ok (.iload_n 1, 1) := by decide +kernel
theorem dX11_left_19 : decode cX11_left 19 = .ok (.iload_n 2, 1) := by decide +kernel
theorem dX11_left_20 : decode cX11_left 20 = .ok (.invokevirtual 378, 3) := by decide +kernel
theorem dX11_left_23 : decode cX11_left 23 = .ok (.goto 8, 3) := by decide +kernel
theorem dX11_left_26 : decode cX11_left 26 = .ok (.aload_n 0, 1) := by decide +kernel
theorem dX11_left_27 : decode cX11_left 27 = .ok (.iconst 1, 1) := by decide +kernel
theorem dX11_left_28 : decode cX11_left 28 = .ok (.invokevirtual 287, 3) := by decide +kernel
theorem dX11_left_31 : decode cX11_left 31 = .ok (.ireturn, 1) := by decide +kernel
theorem dX11_tell_0 : decode cX11_tell 0 = .ok (.aload_n 0, 1) := by decide +kernel
theorem dX11_tell_1 : decode cX11_tell 1 = .ok (.iconst 0, 1) := by decide +kernel
theorem dX11_tell_2 : decode cX11_tell 2 = .ok (.putfield 154, 3) := by decide +kernel
theorem dX11_tell_5 : decode cX11_tell 5 = .ok (.aload_n 0, 1) := by decide +kernel
theorem dX11_tell_6 : decode cX11_tell 6 = .ok (.iload_n 1, 1) := by decide +kernel
theorem dX11_tell_7 : decode cX11_tell 7 = .ok (.invokevirtual 164, 3) := by decide +kernel
theorem dX11_tell_10 : decode cX11_tell 10 = .ok (.ifCond .ne 9, 3) := by decide +kernel
theorem dX11_tell_13 : decode cX11_tell 13 = .ok (.aload_n 0, 1) := by decide +kernel
theorem dX11_tell_14 : decode cX11_tell 14 = .ok (.iconst 1, 1) := by decide +kernel
theorem dX11_tell_15 : decode cX11_tell 15 = .ok (.invokevirtual 287, 3) := by decide +kernel
theorem dX11_tell_18 : decode cX11_tell 18 = .ok (.ireturn, 1) := by decide +kernel
theorem dX11_tell_19 : decode cX11_tell 19 = .ok (.aload_n 0, 1) := by decide +kernel
theorem dX11_tell_20 : decode cX11_tell 20 = .ok (.getfield 80, 3) := by decide +kernel
theorem dX11_tell_23 : decode cX11_tell 23 = .ok (.iload_n 1, 1) := by decide +kernel
theorem dX11_tell_24 : decode cX11_tell 24 = .ok (.iaload, 1) := by decide +kernel
theorem dX11_tell_25 : decode cX11_tell 25 = .ok (.bipush 100, 2) := by decide +kernel
theorem dX11_tell_27 : decode cX11_tell 27 = .ok (.if_icmp .ne 15, 3) := by decide +kernel
theorem dX11_tell_30 : decode cX11_tell 30 = .ok (.aload_n 0, 1) := by decide +kernel
theorem dX11_tell_31 : decode cX11_tell 31 = .ok (.getfield 95, 3) := by decide +kernel
theorem dX11_tell_34 : decode cX11_tell 34 = .ok (.iconst 2, 1) := by decide +kernel
theorem dX11_tell_35 : decode cX11_tell 35 = .ok (.dup2, 1) := by decide +kernel
theorem dX11_tell_36 : decode cX11_tell 36 = .ok (.iaload, 1) := by decide +kernel
theorem dX11_tell_37 : decode cX11_tell 37 = .ok (.iconst 1, 1) := by decide +kernel
theorem dX11_tell_38 : decode cX11_tell 38 = .ok (.iadd, 1) := by decide +kernel
theorem dX11_tell_39 : decode cX11_tell 39 = .ok (.iastore, 1) := by decide +kernel
theorem dX11_tell_40 : decode cX11_tell 40 = .ok (.iconst (-1), 1) := by decide +kernel
theorem dX11_tell_41 : decode cX11_tell 41 = .ok (.ireturn, 1) := by decide +kernel
theorem dX11_tell_42 : decode cX11_tell 42 = .ok (.aload_n 0, 1) := by decide +kernel
theorem dX11_tell_43 : decode cX11_tell 43 = .ok (.getfield 83, 3) := by decide +kernel
theorem dX11_tell_46 : decode cX11_tell 46 = .ok (.bipush 100, 2) := by decide +kernel
theorem dX11_tell_48 : decode cX11_tell 48 = .ok (.iload_n 1, 1) := by decide +kernel
theorem dX11_tell_49 : decode cX11_tell 49 = .ok (.imul, 1) := by decide +kernel
theorem dX11_tell_50 : decode cX11_tell 50 = .ok (.aload_n 0, 1) := by decide +kernel
theorem dX11_tell_51 : decode cX11_tell 51 = .ok (.getfield 80, 3) := by decide +kernel
theorem dX11_tell_54 : decode cX11_tell 54 = .ok (.iload_n 1, 1) := by decide +kernel
theorem dX11_tell_55 : decode cX11_tell 55 = .ok (.iaload, 1) := by decide +kernel
theorem dX11_tell_56 : decode cX11_tell 56 = .ok (.iadd, 1) := by decide +kernel
theorem dX11_tell_57 : decode cX11_tell 57 = .ok (.iload_n 2, 1) := by decide +kernel
theorem dX11_tell_58 : decode cX11_tell 58 = .ok (.iastore, 1) := by decide +kernel
theorem dX11_tell_59 : decode cX11_tell 59 = .ok (.aload_n 0, 1) := by decide +kernel
theorem dX11_tell_60 : decode cX11_tell 60 = .ok (.getfield 80, 3) := by decide +kernel
theorem dX11_tell_63 : decode cX11_tell 63 = .ok (.iload_n 1, 1) := by decide +kernel
theorem dX11_tell_64 : decode cX11_tell 64 = .ok (.dup2, 1) := by decide +kernel
theorem dX11_tell_65 : decode cX11_tell 65 = .ok (.iaload, 1) := by decide +kernel
theorem dX11_tell_66 : decode cX11_tell 66 = .ok (.iconst 1, 1) := by decide +kernel
theorem dX11_tell_67 : decode cX11_tell 67 = .ok (.iadd, 1) := by decide +kernel
theorem dX11_tell_68 : decode cX11_tell 68 = .ok (.iastore, 1) := by decide +kernel
theorem dX11_tell_69 : decode cX11_tell 69 = .ok (.aload_n 0, 1) := by decide +kernel
theorem dX11_tell_70 : decode cX11_tell 70 = .ok (.getfield 80, 3) := by decide +kernel
theorem dX11_tell_73 : decode cX11_tell 73 = .ok (.iload_n 1, 1) := by decide +kernel
theorem dX11_tell_74 : decode cX11_tell 74 = .ok (.iaload, 1) := by decide +kernel
theorem dX11_tell_75 : decode cX11_tell 75 = .ok (.ireturn, 1) := by decide +kernel
theorem dX11_judge_0 : decode cX11_judge 0 = .ok (.aload_n 0, 1) := by decide +kernel
theorem dX11_judge_1 : decode cX11_judge 1 = .ok (.iconst 0, 1) := by decide +kernel
theorem dX11_judge_2 : decode cX11_judge 2 = .ok (.putfield 154, 3) := by decide +kernel
theorem dX11_judge_5 : decode cX11_judge 5 = .ok (.aload_n 0, 1) := by decide +kernel
theorem dX11_judge_6 : decode cX11_judge 6 = .ok (.iload_n 1, 1) := by decide +kernel
theorem dX11_judge_7 : decode cX11_judge 7 = .ok (.invokevirtual 164, 3) := by decide +kernel
theorem dX11_judge_10 : decode cX11_judge 10 = .ok (.ifCond .eq 12, 3) := by decide +kernel
theorem dX11_judge_13 : decode cX11_judge 13 = .ok (.iload_n 2, 1) := by decide +kernel
theorem dX11_judge_14 : decode cX11_judge 14 = .ok (.ifCond .lt 8, 3) := by decide +kernel
theorem dX11_judge_17 : decode cX11_judge 17 = .ok (.iload_n 2, 1) := by decide +kernel
theorem dX11_judge_18 : decode cX11_judge 18 = .ok (.iconst 1, 1) := by decide +kernel
theorem dX11_judge_19 : decode cX11_judge 19 = .ok (.if_icmp .le 9, 3) := by decide +kernel
theorem dX11_judge_22 : decode cX11_judge 22 = .ok (.aload_n 0, 1) := by decide +kernel
theorem dX11_judge_23 : decode cX11_judge 23 = .ok (.iconst 1, 1) := by decide +kernel
theorem dX11_judge_24 : decode cX11_judge 24 = .ok (.invokevirtual 287, 3) := by decide +kernel
theorem dX11_judge_27 : decode cX11_judge 27 = .ok (.ireturn, 1) := by decide +kernel
theorem dX11_judge_28 : decode cX11_judge 28 = .ok (.iconst 0, 1) := by decide +kernel
theorem dX11_judge_29 : decode cX11_judge 29 = .ok (.istore_n 3, 1) := by decide +kernel
theorem dX11_judge_30 : decode cX11_judge 30 = .ok (.iload_n 3, 1) := by decide +kernel
theorem dX11_judge_31 : decode cX11_judge 31 = .ok (.aload_n 0, 1) := by decide +kernel
theorem dX11_judge_32 : decode cX11_judge 32 = .ok (.getfield 80, 3) := by decide +kernel
theorem dX11_judge_35 : decode cX11_judge 35 = .ok (.iload_n 1, 1) := by decide +kernel
theorem dX11_judge_36 : decode cX11_judge 36 = .ok (.iaload, 1) := by decide +kernel
theorem dX11_judge_37 : decode cX11_judge 37 = .ok (.if_icmp .ge 91, 3) := by decide +kernel
theorem dX11_judge_40 : decode cX11_judge 40 = .ok (.aload_n 0, 1) := by decide +kernel
theorem dX11_judge_41 : decode cX11_judge 41 = .ok (.getfield 83, 3) := by decide +kernel
theorem dX11_judge_44 : decode cX11_judge 44 = .ok (.bipush 100, 2) := by decide +kernel
theorem dX11_judge_46 : decode cX11_judge 46 = .ok (.iload_n 1, 1) := by decide +kernel
theorem dX11_judge_47 : decode cX11_judge 47 = .ok (.imul, 1) := by decide +kernel
theorem dX11_judge_48 : decode cX11_judge 48 = .ok (.iload_n 3, 1) := by decide +kernel
theorem dX11_judge_49 : decode cX11_judge 49 = .ok (.iadd, 1) := by decide +kernel
theorem dX11_judge_50 : decode cX11_judge 50 = .ok (.iaload, 1) := by decide +kernel
theorem dX11_judge_51 : decode cX11_judge 51 = .ok (.istore 4, 2) := by decide +kernel
theorem dX11_judge_53 : decode cX11_judge 53 = .ok (.aload_n 0, 1) := by decide +kernel
theorem dX11_judge_54 : decode cX11_judge 54 = .ok (.iload_n 1, 1) := by decide +kernel
theorem dX11_judge_55 : decode cX11_judge 55 = .ok (.iload 4, 2) := by decide +kernel
theorem dX11_judge_57 : decode cX11_judge 57 = .ok (.invokevirtual 369, 3) := by decide +kernel
theorem dX11_judge_60 : decode cX11_judge 60 = .ok (.iconst (-1), 1) := by decide +kernel
theorem dX11_judge_61 : decode cX11_judge 61 = .ok (.if_icmp .ne 13, 3) := by decide +kernel
theorem dX11_judge_64 : decode cX11_judge 64 = .ok (.iload_n 2, 1) := by decide +kernel
theorem dX11_judge_65 : decode cX11_judge 65 = .ok (.ifCond .ne 7, 3) := by decide +kernel
theorem dX11_judge_68 : decode cX11_judge 68 = .ok (.iload_n 3, 1) := by decide +kernel
theorem dX11_judge_69 : decode cX11_judge 69 = .ok (.goto 4, 3) := by decide +kernel
theorem dX11_judge_72 : decode cX11_judge 72 = .ok (.iconst (-1), 1) := by decide +kernel
theorem dX11_judge_73 : decode cX11_judge 73 = .ok (.ireturn, 1) := by decide +kernel
theorem dX11_judge_74 : decode cX11_judge 74 = .ok (.iconst 0, 1) := by decide +kernel
theorem dX11_judge_75 : decode cX11_judge 75 = .ok (.istore 5, 2) := by decide +kernel
theorem dX11_judge_77 : decode cX11_judge 77 = .ok (.iload 5, 2) := by decide +kernel
theorem dX11_judge_79 : decode cX11_judge 79 = .ok (.iload_n 3, 1) := by decide +kernel
theorem dX11_judge_80 : decode cX11_judge 80 = .ok (.if_icmp .ge 42, 3) := by decide +kernel
theorem dX11_judge_83 : decode cX11_judge 83 = .ok (.aload_n 0, 1) := by decide +kernel
theorem dX11_judge_84 : decode cX11_judge 84 = .ok (.iload_n 1, 1) := by decide +kernel
theorem dX11_judge_85 : decode cX11_judge 85 = .ok (.iload 4, 2) := by decide +kernel
theorem dX11_judge_87 : decode cX11_judge 87 = .ok (.aload_n 0, 1) := by decide +kernel
theorem dX11_judge_88 : decode cX11_judge 88 = .ok (.getfield 83, 3) := by decide +kernel
theorem dX11_judge_91 : decode cX11_judge 91 = .ok (.bipush 100, 2) := by decide +kernel
theorem dX11_judge_93 : decode cX11_judge 93 = .ok (.iload_n 1, 1) := by decide +kernel
theorem dX11_judge_94 : decode cX11_judge 94 = .ok (.imul, 1) := by decide +kernel
theorem dX11_judge_95 : decode cX11_judge 95 = .ok (.iload 5, 2) := by decide +kernel
theorem dX11_judge_97 : decode cX11_judge 97 = .ok (.iadd, 1) := by decide +kernel
theorem dX11_judge_98 : decode cX11_judge 98 = .ok (.iaload, 1) := by decide +kernel
theorem dX11_judge_99 : decode cX11_judge 99 = .ok (.invokevirtual 372, 3) := by decide +kernel
theorem dX11_judge_102 : decode cX11_judge 102 = .ok (.ifCond .eq 14, 3) := by decide +kernel
theorem dX11_judge_105 : decode cX11_judge 105 = .ok (.iload_n 2, 1) := by decide +kernel
theorem dX11_judge_106 : decode cX11_judge 106 = .ok (.ifCond .ne 7, 3) := by decide +kernel
theorem dX11_judge_109 : decode cX11_judge 109 = .ok (.iload_n 3, 1) := by decide +kernel
theorem dX11_judge_110 : decode cX11_judge 110 = .ok (.goto 5, 3) := by decide +kernel
theorem dX11_judge_113 : decode cX11_judge 113 = .ok (.iload 5, 2) := by decide +kernel
theorem dX11_judge_115 : decode cX11_judge 115 = .ok (.ireturn, 1) := by decide +kernel
theorem dX11_judge_116 : decode cX11_judge 116 = .ok (.iinc 5 1, 3) := by decide +kernel
theorem dX11_judge_119 : decode cX11_judge 119 = .ok (.goto (-42), 3) := by decide +kernel
theorem dX11_judge_122 : decode cX11_judge 122 = .ok (.iinc 3 1, 3) := by decide +kernel
