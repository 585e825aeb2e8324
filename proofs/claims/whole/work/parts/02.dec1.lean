theorem dX6_init_23 : decode cX6_init 23 = .ok (.newarray .int, 2) := by decide +kernel
theorem dX6_init_25 : decode cX6_init 25 = .ok (.putfield 18, 3) := by decide +kernel
theorem dX6_init_28 : decode cX6_init 28 = .ok (.return_, 1) := by decide +kernel
theorem dX6_seek_0 : decode cX6_seek 0 = .ok (.aload_n 0, 1) := by decide +kernel
theorem dX6_seek_1 : decode cX6_seek 1 = .ok (.iconst 0, 1) := by decide +kernel
theorem dX6_seek_2 : decode cX6_seek 2 = .ok (.putfield 21, 3) := by decide +kernel
theorem dX6_seek_5 : decode cX6_seek 5 = .ok (.aload_n 1, 1) := by decide +kernel
theorem dX6_seek_6 : decode cX6_seek 6 = .ok (.iconst 0, 1) := by decide +kernel
theorem dX6_seek_7 : decode cX6_seek 7 = .ok (.invokevirtual 25, 3) := by decide +kernel
theorem dX6_seek_10 : decode cX6_seek 10 = .ok (.istore_n 3, 1) := by decide +kernel
theorem dX6_seek_11 : decode cX6_seek 11 = .ok (.iload_n 3, 1) := by decide +kernel
theorem dX6_seek_12 : decode cX6_seek 12 = .ok (.iconst (-1), 1) := by decide +kernel
theorem dX6_seek_13 : decode cX6_seek 13 = .ok (.if_icmp .eq 65, 3) := by decide +kernel
theorem dX6_seek_16 : decode cX6_seek 16 = .ok (.aload_n 0, 1) := by decide +kernel
theorem dX6_seek_17 : decode cX6_seek 17 = .ok (.getfield 21, 3) := by decide +kernel
theorem dX6_seek_20 : decode cX6_seek 20 = .ok (.bipush 14, 2) := by decide +kernel
theorem dX6_seek_22 : decode cX6_seek 22 = .ok (.if_icmp .ge 56, 3) := by decide +kernel
theorem dX6_seek_25 : decode cX6_seek 25 = .ok (.aload_n 0, 1) := by decide +kernel
theorem dX6_seek_26 : decode cX6_seek 26 = .ok (.getfield 9, 3) := by decide +kernel
theorem dX6_seek_29 : decode cX6_seek 29 = .ok (.aload_n 0, 1) := by decide +kernel
theorem dX6_seek_30 : decode cX6_seek 30 = .ok (.getfield 21, 3) := by decide +kernel
theorem dX6_seek_33 : decode cX6_seek 33 = .ok (.aload_n 1, 1) := by decide +kernel
theorem dX6_seek_34 : decode cX6_seek 34 = .ok (.iload_n 3, 1) := by decide +kernel
theorem dX6_seek_35 : decode cX6_seek 35 = .ok (.invokevirtual 31, 3) := by decide +kernel
theorem dX6_seek_38 : decode cX6_seek 38 = .ok (.invokestatic 34, 3) := by decide +kernel
theorem dX6_seek_41 : decode cX6_seek 41 = .ok (.aload_n 0, 1) := by decide +kernel
theorem dX6_seek_42 : decode cX6_seek 42 = .ok (.getfield 15, 3) := by decide +kernel
theorem dX6_seek_45 : decode cX6_seek 45 = .ok (.aload_n 0, 1) := by decide +kernel
theorem dX6_seek_46 : decode cX6_seek 46 = .ok (.getfield 21, 3) := by decide +kernel
theorem dX6_seek_49 : decode cX6_seek 49 = .ok (.aload_n 1, 1) := by decide +kernel
theorem dX6_seek_50 : decode cX6_seek 50 = .ok (.iload_n 3, 1) := by decide +kernel
theorem dX6_seek_51 : decode cX6_seek 51 = .ok (.invokevirtual 38, 3) := by decide +kernel
theorem dX6_seek_54 : decode cX6_seek 54 = .ok (.invokestatic 34, 3) := by decide +kernel
theorem dX6_seek_57 : decode cX6_seek 57 = .ok (.aload_n 0, 1) := by decide +kernel
theorem dX6_seek_58 : decode cX6_seek 58 = .ok (.dup, 1) := by decide +kernel
theorem dX6_seek_59 : decode cX6_seek 59 = .ok (.getfield 21, 3) := by decide +kernel
theorem dX6_seek_62 : decode cX6_seek 62 = .ok (.iconst 1, 1) := by decide +kernel
theorem dX6_seek_63 : decode cX6_seek 63 = .ok (.iadd, 1) := by decide +kernel
theorem dX6_seek_64 : decode cX6_seek 64 = .ok (.putfield 21, 3) := by decide +kernel
theorem dX6_seek_67 : decode cX6_seek 67 = .ok (.aload_n 1, 1) := by decide +kernel
theorem dX6_seek_68 : decode cX6_seek 68 = .ok (.iload_n 3, 1) := by decide +kernel
theorem dX6_seek_69 : decode cX6_seek 69 = .ok (.iconst 1, 1) := by decide +kernel
theorem dX6_seek_70 : decode cX6_seek 70 = .ok (.iadd, 1) := by decide +kernel
theorem dX6_seek_71 : decode cX6_seek 71 = .ok (.invokevirtual 25, 3) := by decide +kernel
theorem dX6_seek_74 : decode cX6_seek 74 = .ok (.istore_n 3, 1) := by decide +kernel
theorem dX6_seek_75 : decode cX6_seek 75 = .ok (.goto (-64), 3) := by decide +kernel
theorem dX6_seek_78 : decode cX6_seek 78 = .ok (.iconst 0, 1) := by decide +kernel
theorem dX6_seek_79 : decode cX6_seek 79 = .ok (.istore_n 3, 1) := by decide +kernel
theorem dX6_seek_80 : decode cX6_seek 80 = .ok (.iload_n 3, 1) := by decide +kernel
theorem dX6_seek_81 : decode cX6_seek 81 = .ok (.aload_n 0, 1) := by decide +kernel
theorem dX6_seek_82 : decode cX6_seek 82 = .ok (.getfield 21, 3) := by decide +kernel
theorem dX6_seek_85 : decode cX6_seek 85 = .ok (.if_icmp .ge 23, 3) := by decide +kernel
theorem dX6_seek_88 : decode cX6_seek 88 = .ok (.aload_n 0, 1) := by decide +kernel
theorem dX6_seek_89 : decode cX6_seek 89 = .ok (.getfield 18, 3) := by decide +kernel
theorem dX6_seek_92 : decode cX6_seek 92 = .ok (.iload_n 3, 1) := by decide +kernel
theorem dX6_seek_93 : decode cX6_seek 93 = .ok (.aload_n 0, 1) := by decide +kernel
theorem dX6_seek_94 : decode cX6_seek 94 = .ok (.iload_n 3, 1) := by decide +kernel
theorem dX6_seek_95 : decode cX6_seek 95 = .ok (.iload_n 2, 1) := by decide +kernel
theorem dX6_seek_96 : decode cX6_seek 96 = .ok (.invokevirtual 41, 3) := by decide +kernel
theorem dX6_seek_99 : decode cX6_seek 99 = .ok (.invokestatic 34, 3) := by decide +kernel
theorem dX6_seek_102 : decode cX6_seek 102 = .ok (.iinc 3 1, 3) := by decide +kernel
theorem dX6_seek_105 : decode cX6_seek 105 = .ok (.goto (-25), 3) := by decide +kernel
theorem dX6_seek_108 : decode cX6_seek 108 = .ok (.aload_n 0, 1) := by decide +kernel
theorem dX6_seek_109 : decode cX6_seek 109 = .ok (.iconst 0, 1) := by decide +kernel
theorem dX6_seek_110 : decode cX6_seek 110 = .ok (.putfield 45, 3) := by decide +kernel
theorem dX6_seek_113 : decode cX6_seek 113 = .ok (.aload_n 0, 1) := by decide +kernel
theorem dX6_seek_114 : decode cX6_seek 114 = .ok (.iconst 0, 1) := by decide +kernel
theorem dX6_seek_115 : decode cX6_seek 115 = .ok (.putfield 48, 3) := by decide +kernel
theorem dX6_seek_118 : decode cX6_seek 118 = .ok (.aload_n 0, 1) := by decide +kernel
theorem dX6_seek_119 : decode cX6_seek 119 = .ok (.iconst 0, 1) := by decide +kernel
theorem dX6_seek_120 : decode cX6_seek 120 = .ok (.putfield 51, 3) := by decide +kernel
theorem dX6_seek_123 : decode cX6_seek 123 = .ok (.aload_n 0, 1) := by decide +kernel
theorem dX6_seek_124 : decode cX6_seek 124 = .ok (.iconst 0, 1) := by decide +kernel
theorem dX6_seek_125 : decode cX6_seek 125 = .ok (.iconst 0, 1) := by decide +kernel
theorem dX6_seek_126 : decode cX6_seek 126 = .ok (.iconst 0, 1) := by decide +kernel
theorem dX6_seek_127 : decode cX6_seek 127 = .ok (.iconst 0, 1) := by decide +kernel
theorem dX6_seek_128 : decode cX6_seek 128 = .ok (.invokevirtual 54, 3) := by decide +kernel
theorem dX6_seek_131 : decode cX6_seek 131 = .ok (.return_, 1) := by decide +kernel
theorem dX6_clashesOf_0 : decode cX6_clashesOf 0 = .ok (.iconst 0, 1) := by decide +kernel
theorem dX6_clashesOf_1 : decode cX6_clashesOf 1 = .ok (.istore_n 3, 1) := by decide +kernel
theorem dX6_clashesOf_2 : decode cX6_clashesOf 2 = .ok (.iconst 0, 1) := by decide +kernel
theorem dX6_clashesOf_3 : decode cX6_clashesOf 3 = .ok (.istore 4, 2) := by decide +kernel
theorem dX6_clashesOf_5 : decode cX6_clashesOf 5 = .ok (.iload 4, 2) := by decide +kernel
theorem dX6_clashesOf_7 : decode cX6_clashesOf 7 = .ok (.aload_n 0, 1) := by decide +kernel
theorem dX6_clashesOf_8 : decode cX6_clashesOf 8 = .ok (.getfield 21, 3) := by decide +kernel
theorem dX6_clashesOf_11 : decode cX6_clashesOf 11 = .ok (.if_icmp .ge 47, 3) := by decide +kernel
theorem dX6_clashesOf_14 : decode cX6_clashesOf 14 = .ok (.iload 4, 2) := by decide +kernel
theorem dX6_clashesOf_16 : decode cX6_clashesOf 16 = .ok (.iload_n 1, 1) := by decide +kernel
theorem dX6_clashesOf_17 : decode cX6_clashesOf 17 = .ok (.if_icmp .eq 35, 3) := by decide +kernel
theorem dX6_clashesOf_20 : decode cX6_clashesOf 20 = .ok (.aload_n 0, 1) := by decide +kernel
theorem dX6_clashesOf_21 : decode cX6_clashesOf 21 = .ok (.getfield 9, 3) := by decide +kernel
theorem dX6_clashesOf_24 : decode cX6_clashesOf 24 = .ok (.iload 4, 2) := by decide +kernel
theorem dX6_clashesOf_26 : decode cX6_clashesOf 26 = .ok (.invokestatic 58, 3) := by decide +kernel
theorem dX6_clashesOf_29 : decode cX6_clashesOf 29 = .ok (.aload_n 0, 1) := by decide +kernel
theorem dX6_clashesOf_30 : decode cX6_clashesOf 30 = .ok (.getfield 9, 3) := by decide +kernel
theorem dX6_clashesOf_33 : decode cX6_clashesOf 33 = .ok (.iload_n 1, 1) := by decide +kernel
theorem dX6_clashesOf_34 : decode cX6_clashesOf 34 = .ok (.invokestatic 58, 3) := by decide +kernel
theorem dX6_clashesOf_37 : decode cX6_clashesOf 37 = .ok (.ixor, 1) := by decide +kernel
theorem dX6_clashesOf_38 : decode cX6_clashesOf 38 = .ok (.invokestatic 62, 3) := by decide +kernel
theorem dX6_clashesOf_41 : decode cX6_clashesOf 41 = .ok (.iload_n 2, 1) := by decide +kernel
theorem dX6_clashesOf_42 : decode cX6_clashesOf 42 = .ok (.if_icmp .ge 10, 3) := by decide +kernel
theorem dX6_clashesOf_45 : decode cX6_clashesOf 45 = .ok (.iload_n 3, 1) := by decide +kernel
theorem dX6_clashesOf_46 : decode cX6_clashesOf 46 = .ok (.iconst 1, 1) := by decide +kernel
theorem dX6_clashesOf_47 : decode cX6_clashesOf 47 = .ok (.iload 4, 2) := by decide +kernel
theorem dX6_clashesOf_49 : decode cX6_clashesOf 49 = .ok (.ishl, 1) := by decide +kernel
theorem dX6_clashesOf_50 : decode cX6_clashesOf 50 = .ok (.ior, 1) := by decide +kernel
theorem dX6_clashesOf_51 : decode cX6_clashesOf 51 = .ok (.istore_n 3, 1) := by decide +kernel
theorem dX6_clashesOf_52 : decode cX6_clashesOf 52 = .ok (.iinc 4 1, 3) := by decide +kernel
theorem dX6_clashesOf_55 : decode cX6_clashesOf 55 = .ok (.goto (-50), 3) := by decide +kernel
theorem dX6_clashesOf_58 : decode cX6_clashesOf 58 = .ok (.iload_n 3, 1) := by decide +kernel
theorem dX6_clashesOf_59 : decode cX6_clashesOf 59 = .ok (.ireturn, 1) := by decide +kernel
theorem dX6_choose_0 : decode cX6_choose 0 = .ok (.iload_n 3, 1) := by decide +kernel
theorem dX6_choose_1 : decode cX6_choose 1 = .ok (.aload_n 0, 1) := by decide +kernel
theorem dX6_choose_2 : decode cX6_choose 2 = .ok (.getfield 21, 3) := by decide +kernel
theorem dX6_choose_5 : decode cX6_choose 5 = .ok (.iadd, 1) := by decide +kernel
theorem dX6_choose_6 : decode cX6_choose 6 = .ok (.iload_n 1, 1) := by decide +kernel
theorem dX6_choose_7 : decode cX6_choose 7 = .ok (.isub, 1) := by decide +kernel
theorem dX6_choose_8 : decode cX6_choose 8 = .ok (.aload_n 0, 1) := by decide +kernel
theorem dX6_choose_9 : decode cX6_choose 9 = .ok (.getfield 45, 3) := by decide +kernel
theorem dX6_choose_12 : decode cX6_choose 12 = .ok (.if_icmp .ge 4, 3) := by decide +kernel
theorem dX6_choose_15 : decode cX6_choose 15 = .ok (.return_, 1) := by decide +kernel
theorem dX6_choose_16 : decode cX6_choose 16 = .ok (.iload_n 1, 1) := by decide +kernel
theorem dX6_choose_17 : decode cX6_choose 17 = .ok (.aload_n 0, 1) := by decide +kernel
theorem dX6_choose_18 : decode cX6_choose 18 = .ok (.getfield 21, 3) := by decide +kernel
theorem dX6_choose_21 : decode cX6_choose 21 = .ok (.if_icmp .ge 9, 3) := by decide +kernel
theorem dX6_choose_24 : decode cX6_choose 24 = .ok (.iload_n 1, 1) := by decide +kernel
theorem dX6_choose_25 : decode cX6_choose 25 = .ok (.bipush 14, 2) := by decide +kernel
theorem dX6_choose_27 : decode cX6_choose 27 = .ok (.if_icmp .lt 12, 3) := by decide +kernel
theorem dX6_choose_30 : decode cX6_choose 30 = .ok (.aload_n 0, 1) := by decide +kernel
theorem dX6_choose_31 : decode cX6_choose 31 = .ok (.iload_n 2, 1) := by decide +kernel
theorem dX6_choose_32 : decode cX6_choose 32 = .ok (.iload_n 3, 1) := by decide +kernel
theorem dX6_choose_33 : decode cX6_choose 33 = .ok (.iload 4, 2) := by decide +kernel
theorem dX6_choose_35 : decode cX6_choose 35 = .ok (.invokevirtual 67, 3) := by decide +kernel
theorem dX6_choose_38 : decode cX6_choose 38 = .ok (.return_, 1) := by decide +kernel
theorem dX6_choose_39 : decode cX6_choose 39 = .ok (.aload_n 0, 1) := by decide +kernel
theorem dX6_choose_40 : decode cX6_choose 40 = .ok (.getfield 18, 3) := by decide +kernel
theorem dX6_choose_43 : decode cX6_choose 43 = .ok (.iload_n 1, 1) := by decide +kernel
theorem dX6_choose_44 : decode cX6_choose 44 = .ok (.invokestatic 58, 3) := by decide +kernel
theorem dX6_choose_47 : decode cX6_choose 47 = .ok (.iload_n 2, 1) := by decide +kernel
theorem dX6_choose_48 : decode cX6_choose 48 = .ok (.iand, 1) := by decide +kernel
theorem dX6_choose_49 : decode cX6_choose 49 = .ok (.ifCond .ne 29, 3) := by decide +kernel
theorem dX6_choose_52 : decode cX6_choose 52 = .ok (.aload_n 0, 1) := by decide +kernel
theorem dX6_choose_53 : decode cX6_choose 53 = .ok (.iload_n 1, 1) := by decide +kernel
theorem dX6_choose_54 : decode cX6_choose 54 = .ok (.iconst 1, 1) := by decide +kernel
theorem dX6_choose_55 : decode cX6_choose 55 = .ok (.iadd, 1) := by decide +kernel
theorem dX6_choose_56 : decode cX6_choose 56 = .ok (.iload_n 2, 1) := by decide +kernel
theorem dX6_choose_57 : decode cX6_choose 57 = .ok (.iconst 1, 1) := by decide +kernel
theorem dX6_choose_58 : decode cX6_choose 58 = .ok (.iload_n 1, 1) := by decide +kernel
theorem dX6_choose_59 : decode cX6_choose 59 = .ok (.ishl, 1) := by decide +kernel
theorem dX6_choose_60 : decode cX6_choose 60 = .ok (.ior, 1) := by decide +kernel
theorem dX6_choose_61 : decode cX6_choose 61 = .ok (.iload_n 3, 1) := by decide +kernel
theorem dX6_choose_62 : decode cX6_choose 62 = .ok (.iconst 1, 1) := by decide +kernel
theorem dX6_choose_63 : decode cX6_choose 63 = .ok (.iadd, 1) := by decide +kernel
theorem dX6_choose_64 : decode cX6_choose 64 = .ok (.iload 4, 2) := by decide +kernel
theorem dX6_choose_66 : decode cX6_choose 66 = .ok (.aload_n 0, 1) := by decide +kernel
theorem dX6_choose_67 : decode cX6_choose 67 = .ok (.getfield 15, 3) := by decide +kernel
theorem dX6_choose_70 : decode cX6_choose 70 = .ok (.iload_n 1, 1) := by decide +kernel
theorem dX6_choose_71 : decode cX6_choose 71 = .ok (.invokestatic 58, 3) := by decide +kernel
theorem dX6_choose_74 : decode cX6_choose 74 = .ok (.iadd, 1) := by decide +kernel
theorem dX6_choose_75 : decode cX6_choose 75 = .ok (.invokevirtual 54, 3) := by decide +kernel
theorem dX6_choose_78 : decode cX6_choose 78 = .ok (.aload_n 0, 1) := by decide +kernel
theorem dX6_choose_79 : decode cX6_choose 79 = .ok (.iload_n 1, 1) := by decide +kernel
theorem dX6_choose_80 : decode cX6_choose 80 = .ok (.iconst 1, 1) := by decide +kernel
theorem dX6_choose_81 : decode cX6_choose 81 = .ok (.iadd, 1) := by decide +kernel
theorem dX6_choose_82 : decode cX6_choose 82 = .ok (.iload_n 2, 1) := by decide +kernel
theorem dX6_choose_83 : decode cX6_choose 83 = .ok (.iload_n 3, 1) := by decide +kernel
theorem dX6_choose_84 : decode cX6_choose 84 = .ok (.iload 4, 2) := by decide +kernel
theorem dX6_choose_86 : decode cX6_choose 86 = .ok (.invokevirtual 54, 3) := by decide +kernel
theorem dX6_choose_89 : decode cX6_choose 89 = .ok (.return_, 1) := by decide +kernel
theorem dX6_keepIfBetter_0 : decode cX6_keepIfBetter 0 = .ok (.iload_n 2, 1) := by decide +kernel
theorem dX6_keepIfBetter_1 : decode cX6_keepIfBetter 1 = .ok (.aload_n 0, 1) := by decide +kernel
theorem dX6_keepIfBetter_2 : decode cX6_keepIfBetter 2 = .ok (.getfield 45, 3) := by decide +kernel
theorem dX6_keepIfBetter_5 : decode cX6_keepIfBetter 5 = .ok (.if_icmp .eq 19, 3) := by decide +kernel
theorem dX6_keepIfBetter_8 : decode cX6_keepIfBetter 8 = .ok (.iload_n 2, 1) := by decide +kernel
theorem dX6_keepIfBetter_9 : decode cX6_keepIfBetter 9 = .ok (.aload_n 0, 1) := by decide +kernel
theorem dX6_keepIfBetter_10 : decode cX6_keepIfBetter 10 = .ok (.getfield 45, 3) := by decide +kernel
theorem dX6_keepIfBetter_13 : decode cX6_keepIfBetter 13 = .ok (.if_icmp .le 7, 3) := by decide +kernel
theorem dX6_keepIfBetter_16 : decode cX6_keepIfBetter 16 = .ok (.iconst 1, 1) := by decide +kernel
theorem dX6_keepIfBetter_17 : decode cX6_keepIfBetter 17 = .ok (.goto 44, 3) := by decide +kernel
theorem dX6_keepIfBetter_20 : decode cX6_keepIfBetter 20 = .ok (.iconst 0, 1) := by decide +kernel
theorem dX6_keepIfBetter_21 : decode cX6_keepIfBetter 21 = .ok (.goto 40, 3) := by decide +kernel
theorem dX6_keepIfBetter_24 : decode cX6_keepIfBetter 24 = .ok (.iload_n 3, 1) := by decide +kernel
theorem dX6_keepIfBetter_25 : decode cX6_keepIfBetter 25 = .ok (.aload_n 0, 1) := by decide +kernel
theorem dX6_keepIfBetter_26 : decode cX6_keepIfBetter 26 = .ok (.getfield 48, 3) := by decide +kernel
theorem dX6_keepIfBetter_29 : decode cX6_keepIfBetter 29 = .ok (.if_icmp .eq 19, 3) := by decide +kernel
theorem dX6_keepIfBetter_32 : decode cX6_keepIfBetter 32 = .ok (.iload_n 3, 1) := by decide +kernel
theorem dX6_keepIfBetter_33 : decode cX6_keepIfBetter 33 = .ok (.aload_n 0, 1) := by decide +kernel
theorem dX6_keepIfBetter_34 : decode cX6_keepIfBetter 34 = .ok (.getfield 48, 3) := by decide +kernel
theorem dX6_keepIfBetter_37 : decode cX6_keepIfBetter 37 = .ok (.if_icmp .ge 7, 3) := by decide +kernel
theorem dX6_keepIfBetter_40 : decode cX6_keepIfBetter 40 = .ok (.iconst 1, 1) := by decide +kernel
theorem dX6_keepIfBetter_41 : decode cX6_keepIfBetter 41 = .ok (.goto 20, 3) := by decide +kernel
theorem dX6_keepIfBetter_44 : decode cX6_keepIfBetter 44 = .ok (.iconst 0, 1) := by decide +kernel
theorem dX6_keepIfBetter_45 : decode cX6_keepIfBetter 45 = .ok (.goto 16, 3) := by decide +kernel
theorem dX6_keepIfBetter_48 : decode cX6_keepIfBetter 48 = .ok (.iload_n 1, 1) := by decide +kernel
theorem dX6_keepIfBetter_49 : decode cX6_keepIfBetter 49 = .ok (.aload_n 0, 1) := by decide +kernel
theorem dX6_keepIfBetter_50 : decode cX6_keepIfBetter 50 = .ok (.getfield 51, 3) := by decide +kernel
theorem dX6_keepIfBetter_53 : decode cX6_keepIfBetter 53 = .ok (.if_icmp .ge 7, 3) := by decide +kernel
theorem dX6_keepIfBetter_56 : decode cX6_keepIfBetter 56 = .ok (.iconst 1, 1) := by decide +kernel
theorem dX6_keepIfBetter_57 : decode cX6_keepIfBetter 57 = .ok (.goto 4, 3) := by decide +kernel
theorem dX6_keepIfBetter_60 : decode cX6_keepIfBetter 60 = .ok (.iconst 0, 1) := by decide +kernel
theorem dX6_keepIfBetter_61 : decode cX6_keepIfBetter 61 = .ok (.istore 4, 2) := by decide +kernel
theorem dX6_keepIfBetter_63 : decode cX6_keepIfBetter 63 = .ok (.iload 4, 2) := by decide +kernel
theorem dX6_keepIfBetter_65 : decode cX6_keepIfBetter 65 = .ok (.ifCond .eq 18, 3) := by decide +kernel
theorem dX6_keepIfBetter_68 : decode cX6_keepIfBetter 68 = .ok (.aload_n 0, 1) := by decide +kernel
theorem dX6_keepIfBetter_69 : decode cX6_keepIfBetter 69 = .ok (.iload_n 2, 1) := by decide +kernel
theorem dX6_keepIfBetter_70 : decode cX6_keepIfBetter 70 = .ok (.putfield 45, 3) := by decide +kernel
theorem dX6_keepIfBetter_73 : decode cX6_keepIfBetter 73 = .ok (.aload_n 0, 1) := by decide +kernel
theorem dX6_keepIfBetter_74 : decode cX6_keepIfBetter 74 = .ok (.iload_n 3, 1) := by decide +kernel
theorem dX6_keepIfBetter_75 : decode cX6_keepIfBetter 75 = .ok (.putfield 48, 3) := by decide +kernel
theorem dX6_keepIfBetter_78 : decode cX6_keepIfBetter 78 = .ok (.aload_n 0, 1) := by decide +kernel
theorem dX6_keepIfBetter_79 : decode cX6_keepIfBetter 79 = .ok (.iload_n 1, 1) := by decide +kernel
theorem dX6_keepIfBetter_80 : decode cX6_keepIfBetter 80 = .ok (.putfield 51, 3) := by decide +kernel
theorem dX6_keepIfBetter_83 : decode cX6_keepIfBetter 83 = .ok (.return_, 1) := by decide +kernel
theorem dX7_init_0 : decode cX7_init 0 = .ok (.aload_n 0, 1) := by decide +kernel
theorem dX7_init_1 : decode cX7_init 1 = .ok (.invokespecial 3, 3) := by decide +kernel
theorem dX7_init_4 : decode cX7_init 4 = .ok (.aload_n 0, 1) := by decide +kernel
theorem dX7_init_5 : decode cX7_init 5 = .ok (.sipush 1458, 3) := by decide +kernel
theorem dX7_init_8 : decode cX7_init 8 = .ok (.newarray .boolean, 2) := by decide +kernel
theorem dX7_init_10 : decode cX7_init 10 = .ok (.putfield 9, 3) := by decide +kernel
theorem dX7_init_13 : decode cX7_init 13 = .ok (.aload_n 0, 1) := by decide +kernel
theorem dX7_init_14 : decode cX7_init 14 = .ok (.bipush 100, 2) := by decide +kernel
theorem dX7_init_16 : decode cX7_init 16 = .ok (.newarray .int, 2) := by decide +kernel
theorem dX7_init_18 : decode cX7_init 18 = .ok (.putfield 15, 3) := by decide +kernel
theorem dX7_init_21 : decode cX7_init 21 = .ok (.aload_n 0, 1) := by decide +kernel
theorem dX7_init_22 : decode cX7_init 22 = .ok (.bipush 101, 2) := by decide +kernel
theorem dX7_init_24 : decode cX7_init 24 = .ok (.newarray .long, 2) := by decide +kernel
theorem dX7_init_26 : decode cX7_init 26 = .ok (.putfield 19, 3) := by decide +kernel
theorem dX7_init_29 : decode cX7_init 29 = .ok (.return_, 1) := by decide +kernel
theorem dX7_follow_0 : decode cX7_follow 0 = .ok (.aload_n 0, 1) := by decide +kernel
theorem dX7_follow_1 : decode cX7_follow 1 = .ok (.iconst 0, 1) := by decide +kernel
theorem dX7_follow_2 : decode cX7_follow 2 = .ok (.putfield 23, 3) := by decide +kernel
theorem dX7_follow_5 : decode cX7_follow 5 = .ok (.aload_n 0, 1) := by decide +kernel
theorem dX7_follow_6 : decode cX7_follow 6 = .ok (.iconst (-1), 1) := by decide +kernel
theorem dX7_follow_7 : decode cX7_follow 7 = .ok (.putfield 27, 3) := by decide +kernel
theorem dX7_follow_10 : decode cX7_follow 10 = .ok (.aload_n 0, 1) := by decide +kernel
theorem dX7_follow_11 : decode cX7_follow 11 = .ok (.iconst 0, 1) := by decide +kernel
theorem dX7_follow_12 : decode cX7_follow 12 = .ok (.putfield 30, 3) := by decide +kernel
theorem dX7_follow_15 : decode cX7_follow 15 = .ok (.iconst 0, 1) := by decide +kernel
theorem dX7_follow_16 : decode cX7_follow 16 = .ok (.istore_n 3, 1) := by decide +kernel
theorem dX7_follow_17 : decode cX7_follow 17 = .ok (.iload_n 3, 1) := by decide +kernel
theorem dX7_follow_18 : decode cX7_follow 18 = .ok (.aload_n 1, 1) := by decide +kernel
theorem dX7_follow_19 : decode cX7_follow 19 = .ok (.getfield 33, 3) := by decide +kernel
theorem dX7_follow_22 : decode cX7_follow 22 = .ok (.if_icmp .ge 29, 3) := by decide +kernel
theorem dX7_follow_25 : decode cX7_follow 25 = .ok (.iload_n 3, 1) := by decide +kernel
theorem dX7_follow_26 : decode cX7_follow 26 = .ok (.aload_n 0, 1) := by decide +kernel
theorem dX7_follow_27 : decode cX7_follow 27 = .ok (.getfield 9, 3) := by decide +kernel
theorem dX7_follow_30 : decode cX7_follow 30 = .ok (.arraylength, 1) := by decide +kernel
theorem dX7_follow_31 : decode cX7_follow 31 = .ok (.if_icmp .ge 20, 3) := by decide +kernel
theorem dX7_follow_34 : decode cX7_follow 34 = .ok (.aload_n 0, 1) := by decide +kernel
theorem dX7_follow_35 : decode cX7_follow 35 = .ok (.getfield 9, 3) := by decide +kernel
theorem dX7_follow_38 : decode cX7_follow 38 = .ok (.iload_n 3, 1) := by decide +kernel
theorem dX7_follow_39 : decode cX7_follow 39 = .ok (.aload_n 1, 1) := by decide +kernel
theorem dX7_follow_40 : decode cX7_follow 40 = .ok (.iload_n 3, 1) := by decide +kernel
theorem dX7_follow_41 : decode cX7_follow 41 = .ok (.invokevirtual 38, 3) := by decide +kernel
theorem dX7_follow_44 : decode cX7_follow 44 = .ok (.bastore, 1) := by decide +kernel
theorem dX7_follow_45 : decode cX7_follow 45 = .ok (.iinc 3 1, 3) := by decide +kernel
theorem dX7_follow_48 : decode cX7_follow 48 = .ok (.goto (-31), 3) := by decide +kernel
theorem dX7_follow_51 : decode cX7_follow 51 = .ok (.iconst 0, 1) := by decide +kernel
theorem dX7_follow_52 : decode cX7_follow 52 = .ok (.istore_n 3, 1) := by decide +kernel
theorem dX7_follow_53 : decode cX7_follow 53 = .ok (.iload_n 3, 1) := by decide +kernel
theorem dX7_follow_54 : decode cX7_follow 54 = .ok (.aload_n 1, 1) := by decide +kernel
theorem dX7_follow_55 : decode cX7_follow 55 = .ok (.getfield 33, 3) := by decide +kernel
theorem dX7_follow_58 : decode cX7_follow 58 = .ok (.if_icmp .ge 41, 3) := by decide +kernel
theorem dX7_follow_61 : decode cX7_follow 61 = .ok (.iload_n 3, 1) := by decide +kernel
theorem dX7_follow_62 : decode cX7_follow 62 = .ok (.aload_n 0, 1) := by decide +kernel
theorem dX7_follow_63 : decode cX7_follow 63 = .ok (.getfield 9, 3) := by decide +kernel
theorem dX7_follow_66 : decode cX7_follow 66 = .ok (.arraylength, 1) := by decide +kernel
theorem dX7_follow_67 : decode cX7_follow 67 = .ok (.if_icmp .ge 32, 3) := by decide +kernel
theorem dX7_follow_70 : decode cX7_follow 70 = .ok (.aload_n 0, 1) := by decide +kernel
theorem dX7_follow_71 : decode cX7_follow 71 = .ok (.getfield 23, 3) := by decide +kernel
theorem dX7_follow_74 : decode cX7_follow 74 = .ok (.iload_n 2, 1) := by decide +kernel
theorem dX7_follow_75 : decode cX7_follow 75 = .ok (.if_icmp .ge 24, 3) := by decide +kernel
theorem dX7_follow_78 : decode cX7_follow 78 = .ok (.aload_n 0, 1) := by decide +kernel
theorem dX7_follow_79 : decode cX7_follow 79 = .ok (.getfield 9, 3) := by decide +kernel
theorem dX7_follow_82 : decode cX7_follow 82 = .ok (.iload_n 3, 1) := by decide +kernel
theorem dX7_follow_83 : decode cX7_follow 83 = .ok (.baload, 1) := by decide +kernel
theorem dX7_follow_84 : decode cX7_follow 84 = .ok (.ifCond .ne 9, 3) := by decide +kernel
theorem dX7_follow_87 : decode cX7_follow 87 = .ok (.aload_n 0, 1) := by decide +kernel
theorem dX7_follow_88 : decode cX7_follow 88 = .ok (.aload_n 1, 1) := by decide +kernel
theorem dX7_follow_89 : decode cX7_follow 89 = .ok (.iload_n 3, 1) := by decide +kernel
theorem dX7_follow_90 : decode cX7_follow 90 = .ok (.invokevirtual 42, 3) := by decide +kernel
theorem dX7_follow_93 : decode cX7_follow 93 = .ok (.iinc 3 1, 3) := by decide +kernel
theorem dX7_follow_96 : decode cX7_follow 96 = .ok (.goto (-43), 3) := by decide +kernel
theorem dX7_follow_99 : decode cX7_follow 99 = .ok (.return_, 1) := by decide +kernel
theorem dX7_take_0 : decode cX7_take 0 = .ok (.aload_n 0, 1) := by decide +kernel
theorem dX7_take_1 : decode cX7_take 1 = .ok (.getfield 15, 3) := by decide +kernel
theorem dX7_take_4 : decode cX7_take 4 = .ok (.aload_n 0, 1) := by decide +kernel
theorem dX7_take_5 : decode cX7_take 5 = .ok (.getfield 23, 3) := by decide +kernel
theorem dX7_take_8 : decode cX7_take 8 = .ok (.aload_n 1, 1) := by decide +kernel
theorem dX7_take_9 : decode cX7_take 9 = .ok (.iload_n 2, 1) := by decide +kernel
theorem dX7_take_10 : decode cX7_take 10 = .ok (.invokevirtual 46, 3) := by decide +kernel
theorem dX7_take_13 : decode cX7_take 13 = .ok (.invokestatic 50, 3) := by decide +kernel
theorem dX7_take_16 : decode cX7_take 16 = .ok (.aload_n 0, 1) := by decide +kernel
theorem dX7_take_17 : decode cX7_take 17 = .ok (.dup, 1) := by decide +kernel
theorem dX7_take_18 : decode cX7_take 18 = .ok (.getfield 23, 3) := by decide +kernel
theorem dX7_take_21 : decode cX7_take 21 = .ok (.iconst 1, 1) := by decide +kernel
theorem dX7_take_22 : decode cX7_take 22 = .ok (.iadd, 1) := by decide +kernel
theorem dX7_take_23 : decode cX7_take 23 = .ok (.putfield 23, 3) := by decide +kernel
theorem dX7_take_26 : decode cX7_take 26 = .ok (.aload_n 0, 1) := by decide +kernel
theorem dX7_take_27 : decode cX7_take 27 = .ok (.iload_n 2, 1) := by decide +kernel
theorem dX7_take_28 : decode cX7_take 28 = .ok (.putfield 27, 3) := by decide +kernel
theorem dX7_take_31 : decode cX7_take 31 = .ok (.aload_n 0, 1) := by decide +kernel
theorem dX7_take_32 : decode cX7_take 32 = .ok (.dup, 1) := by decide +kernel
theorem dX7_take_33 : decode cX7_take 33 = .ok (.getfield 30, 3) := by decide +kernel
theorem dX7_take_36 : decode cX7_take 36 = .ok (.aload_n 1, 1) := by decide +kernel
theorem dX7_take_37 : decode cX7_take 37 = .ok (.iload_n 2, 1) := by decide +kernel
theorem dX7_take_38 : decode cX7_take 38 = .ok (.invokevirtual 46, 3) := by decide +kernel
theorem dX7_take_41 : decode cX7_take 41 = .ok (.iadd, 1) := by decide +kernel
theorem dX7_take_42 : decode cX7_take 42 = .ok (.putfield 30, 3) := by decide +kernel
theorem dX7_take_45 : decode cX7_take 45 = .ok (.aload_n 1, 1) := by decide +kernel
theorem dX7_take_46 : decode cX7_take 46 = .ok (.aload_n 0, 1) := by decide +kernel
theorem dX7_take_47 : decode cX7_take 47 = .ok (.getfield 9, 3) := by decide +kernel
theorem dX7_take_50 : decode cX7_take 50 = .ok (.aload_n 1, 1) := by decide +kernel
theorem dX7_take_51 : decode cX7_take 51 = .ok (.getfield 54, 3) := by decide +kernel
theorem dX7_take_54 : decode cX7_take 54 = .ok (.getfield 58, 3) := by decide +kernel
theorem dX7_take_57 : decode cX7_take 57 = .ok (.aload_n 1, 1) := by decide +kernel
theorem dX7_take_58 : decode cX7_take 58 = .ok (.getfield 54, 3) := by decide +kernel
theorem dX7_take_61 : decode cX7_take 61 = .ok (.getfield 63, 3) := by decide +kernel
theorem dX7_take_64 : decode cX7_take 64 = .ok (.iload_n 2, 1) := by decide +kernel
theorem dX7_take_65 : decode cX7_take 65 = .ok (.iload_n 2, 1) := by decide +kernel
theorem dX7_take_66 : decode cX7_take 66 = .ok (.iconst 1, 1) := by decide +kernel
theorem dX7_take_67 : decode cX7_take 67 = .ok (.iadd, 1) := by decide +kernel
theorem dX7_take_68 : decode cX7_take 68 = .ok (.invokevirtual 66, 3) := by decide +kernel
theorem dX7_take_71 : decode cX7_take 71 = .ok (.pop, 1) := by decide +kernel
theorem dX7_take_72 : decode cX7_take 72 = .ok (.return_, 1) := by decide +kernel
theorem dX7_expected_0 : decode cX7_expected 0 = .ok (.aload_n 0, 1) := by decide +kernel
theorem dX7_expected_1 : decode cX7_expected 1 = .ok (.getfield 19, 3) := by decide +kernel
theorem dX7_expected_4 : decode cX7_expected 4 = .ok (.lconst 0, 1) := by decide +kernel
theorem dX7_expected_5 : decode cX7_expected 5 = .ok (.invokestatic 70, 3) := by decide +kernel
theorem dX7_expected_8 : decode cX7_expected 8 = .ok (.aload_n 0, 1) := by decide +kernel
theorem dX7_expected_9 : decode cX7_expected 9 = .ok (.getfield 19, 3) := by decide +kernel
theorem dX7_expected_12 : decode cX7_expected 12 = .ok (.iconst 0, 1) := by decide +kernel
theorem dX7_expected_13 : decode cX7_expected 13 = .ok (.ldc2_w 76, 3) := by decide +kernel
theorem dX7_expected_16 : decode cX7_expected 16 = .ok (.lastore, 1) := by decide +kernel
theorem dX7_expected_17 : decode cX7_expected 17 = .ok (.lconst 0, 1) := by decide +kernel
theorem dX7_expected_18 : decode cX7_expected 18 = .ok (.lstore_n 3, 1) := by decide +kernel
theorem dX7_expected_19 : decode cX7_expected 19 = .ok (.iconst 0, 1) := by decide +kernel
theorem dX7_expected_20 : decode cX7_expected 20 = .ok (.istore 5, 2) := by decide +kernel
theorem dX7_expected_22 : decode cX7_expected 22 = .ok (.iload 5, 2) := by decide +kernel
theorem dX7_expected_24 : decode cX7_expected 24 = .ok (.iload_n 2, 1) := by decide +kernel
theorem dX7_expected_25 : decode cX7_expected 25 = .ok (.if_icmp .ge 17, 3) := by decide +kernel
theorem dX7_expected_28 : decode cX7_expected 28 = .ok (.lload_n 3, 1) := by decide +kernel
theorem dX7_expected_29 : decode cX7_expected 29 = .ok (.aload_n 0, 1) := by decide +kernel
theorem dX7_expected_30 : decode cX7_expected 30 = .ok (.iload_n 1, 1) := by decide +kernel
theorem dX7_expected_31 : decode cX7_expected 31 = .ok (.invokevirtual 78, 3) := by decide +kernel
theorem dX7_expected_34 : decode cX7_expected 34 = .ok (.ladd, 1) := by decide +kernel
theorem dX7_expected_35 : decode cX7_expected 35 = .ok (.lstore_n 3, 1) := by decide +kernel
theorem dX7_expected_36 : decode cX7_expected 36 = .ok (.iinc 5 1, 3) := by decide +kernel
theorem dX7_expected_39 : decode cX7_expected 39 = .ok (.goto (-17), 3) := by decide +kernel
theorem dX7_expected_42 : decode cX7_expected 42 = .ok (.lload_n 3, 1) := by decide +kernel
theorem dX7_expected_43 : decode cX7_expected 43 = .ok (.ldc2_w 82, 3) := by decide +kernel
theorem dX7_expected_46 : decode cX7_expected 46 = .ok (.ldiv, 1) := by decide +kernel
theorem dX7_expected_47 : decode cX7_expected 47 = .ok (.l2i, 1) := by decide +kernel
theorem dX7_expected_48 : decode cX7_expected 48 = .ok (.ireturn, 1) := by decide +kernel
theorem dX7_passYear_0 : decode cX7_passYear 0 = .ok (.lconst 0, 1) := by decide +kernel
theorem dX7_passYear_1 : decode cX7_passYear 1 = .ok (.lstore_n 2, 1) := by decide +kernel
theorem dX7_passYear_2 : decode cX7_passYear 2 = .ok (.aload_n 0, 1) := by decide +kernel
theorem dX7_passYear_3 : decode cX7_passYear 3 = .ok (.getfield 23, 3) := by decide +kernel
theorem dX7_passYear_6 : decode cX7_passYear 6 = .ok (.bipush 100, 2) := by decide +kernel
theorem dX7_passYear_8 : decode cX7_passYear 8 = .ok (.invokestatic 84, 3) := by decide +kernel
theorem dX7_passYear_11 : decode cX7_passYear 11 = .ok (.iconst 1, 1) := by decide +kernel
theorem dX7_passYear_12 : decode cX7_passYear 12 = .ok (.isub, 1) := by decide +kernel
theorem dX7_passYear_13 : decode cX7_passYear 13 = .ok (.istore 4, 2) := by decide +kernel
theorem dX7_passYear_15 : decode cX7_passYear 15 = .ok (.iload 4, 2) := by decide +kernel
theorem dX7_passYear_17 : decode cX7_passYear 17 = .ok (.ifCond .lt 67, 3) := by decide +kernel
theorem dX7_passYear_20 : decode cX7_passYear 20 = .ok (.aload_n 0, 1) := by decide +kernel
theorem dX7_passYear_21 : decode cX7_passYear 21 = .ok (.getfield 19, 3) := by decide +kernel
theorem dX7_passYear_24 : decode cX7_passYear 24 = .ok (.iload 4, 2) := by decide +kernel
theorem dX7_passYear_26 : decode cX7_passYear 26 = .ok (.laload, 1) := by decide +kernel
theorem dX7_passYear_27 : decode cX7_passYear 27 = .ok (.iload_n 1, 1) := by decide +kernel
theorem dX7_passYear_28 : decode cX7_passYear 28 = .ok (.i2l, 1) := by decide +kernel
theorem dX7_passYear_29 : decode cX7_passYear 29 = .ok (.lmul, 1) := by decide +kernel
theorem dX7_passYear_30 : decode cX7_passYear 30 = .ok (.ldc2_w 90, 3) := by decide +kernel
theorem dX7_passYear_33 : decode cX7_passYear 33 = .ok (.ldiv, 1) := by decide +kernel
theorem dX7_passYear_34 : decode cX7_passYear 34 = .ok (.lstore 5, 2) := by decide +kernel
theorem dX7_passYear_36 : decode cX7_passYear 36 = .ok (.aload_n 0, 1) := by decide +kernel
theorem dX7_passYear_37 : decode cX7_passYear 37 = .ok (.getfield 19, 3) := by decide +kernel
theorem dX7_passYear_40 : decode cX7_passYear 40 = .ok (.iload 4, 2) := by decide +kernel
theorem dX7_passYear_42 : decode cX7_passYear 42 = .ok (.dup2, 1) := by decide +kernel
theorem dX7_passYear_43 : decode cX7_passYear 43 = .ok (.laload, 1) := by decide +kernel
theorem dX7_passYear_44 : decode cX7_passYear 44 = .ok (.lload 5, 2) := by decide +kernel
theorem dX7_passYear_46 : decode cX7_passYear 46 = .ok (.lsub, 1) := by decide +kernel
theorem dX7_passYear_47 : decode cX7_passYear 47 = .ok (.lastore, 1) := by decide +kernel
theorem dX7_passYear_48 : decode cX7_passYear 48 = .ok (.aload_n 0, 1) := by decide +kernel
theorem dX7_passYear_49 : decode cX7_passYear 49 = .ok (.getfield 19, 3) := by decide +kernel
theorem dX7_passYear_52 : decode cX7_passYear 52 = .ok (.iload 4, 2) := by decide +kernel
theorem dX7_passYear_54 : decode cX7_passYear 54 = .ok (.iconst 1, 1) := by decide +kernel
theorem dX7_passYear_55 : decode cX7_passYear 55 = .ok (.iadd, 1) := by decide +kernel
theorem dX7_passYear_56 : decode cX7_passYear 56 = .ok (.dup2, 1) := by decide +kernel
theorem dX7_passYear_57 : decode cX7_passYear 57 = .ok (.laload, 1) := by decide +kernel
theorem dX7_passYear_58 : decode cX7_passYear 58 = .ok (.lload 5, 2) := by decide +kernel
theorem dX7_passYear_60 : decode cX7_passYear 60 = .ok (.ladd, 1) := by decide +kernel
theorem dX7_passYear_61 : decode cX7_passYear 61 = .ok (.lastore, 1) := by decide +kernel
theorem dX7_passYear_62 : decode cX7_passYear 62 = .ok (.lload_n 2, 1) := by decide +kernel
theorem dX7_passYear_63 : decode cX7_passYear 63 = .ok (.lload 5, 2) := by decide +kernel
theorem dX7_passYear_65 : decode cX7_passYear 65 = .ok (.aload_n 0, 1) := by decide +kernel
theorem dX7_passYear_66 : decode cX7_passYear 66 = .ok (.getfield 15, 3) := by decide +kernel
theorem dX7_passYear_69 : decode cX7_passYear 69 = .ok (.iload 4, 2) := by decide +kernel
theorem dX7_passYear_71 : decode cX7_passYear 71 = .ok (.invokestatic 92, 3) := by decide +kernel
theorem dX7_passYear_74 : decode cX7_passYear 74 = .ok (.i2l, 1) := by decide +kernel
theorem dX7_passYear_75 : decode cX7_passYear 75 = .ok (.lmul, 1) := by decide +kernel
theorem dX7_passYear_76 : decode cX7_passYear 76 = .ok (.ladd, 1) := by decide +kernel
theorem dX7_passYear_77 : decode cX7_passYear 77 = .ok (.lstore_n 2, 1) := by decide +kernel
theorem dX7_passYear_78 : decode cX7_passYear 78 = .ok (.iinc 4 (-1), 3) := by decide +kernel
theorem dX7_passYear_81 : decode cX7_passYear 81 = .ok (.goto (-66), 3) := by decide +kernel
theorem dX7_passYear_84 : decode cX7_passYear 84 = .ok (.lload_n 2, 1) := by decide +kernel
theorem dX7_passYear_85 : decode cX7_passYear 85 = .ok (.lreturn, 1) := by decide +kernel
theorem dX8_init_0 : decode cX8_init 0 = .ok (.aload_n 0, 1) := by decide +kernel
theorem dX8_init_1 : decode cX8_init 1 = .ok (.invokespecial 3, 3) := by decide +kernel
theorem dX8_init_4 : decode cX8_init 4 = .ok (.aload_n 0, 1) := by decide +kernel
theorem dX8_init_5 : decode cX8_init 5 = .ok (.sipush 700, 3) := by decide +kernel
theorem dX8_init_8 : decode cX8_init 8 = .ok (.newarray .byte, 2) := by decide +kernel
theorem dX8_init_10 : decode cX8_init 10 = .ok (.putfield 9, 3) := by decide +kernel
theorem dX8_init_13 : decode cX8_init 13 = .ok (.return_, 1) := by decide +kernel
theorem dX8_take_0 : decode cX8_take 0 = .ok (.bipush 24, 2) := by decide +kernel
theorem dX8_take_2 : decode cX8_take 2 = .ok (.istore_n 2, 1) := by decide +kernel
theorem dX8_take_3 : decode cX8_take 3 = .ok (.iload_n 2, 1) := by decide +kernel
theorem dX8_take_4 : decode cX8_take 4 = .ok (.ifCond .lt 44, 3) := by decide +kernel
theorem dX8_take_7 : decode cX8_take 7 = .ok (.aload_n 0, 1) := by decide +kernel
theorem dX8_take_8 : decode cX8_take 8 = .ok (.getfield 15, 3) := by decide +kernel
theorem dX8_take_11 : decode cX8_take 11 = .ok (.aload_n 0, 1) := by decide +kernel
theorem dX8_take_12 : decode cX8_take 12 = .ok (.getfield 9, 3) := by decide +kernel
theorem dX8_take_15 : decode cX8_take 15 = .ok (.arraylength, 1) := by decide +kernel
theorem dX8_take_16 : decode cX8_take 16 = .ok (.if_icmp .ge 26, 3) := by decide +kernel
theorem dX8_take_19 : decode cX8_take 19 = .ok (.aload_n 0, 1) := by decide +kernel
theorem dX8_take_20 : decode cX8_take 20 = .ok (.getfield 9, 3) := by decide +kernel
theorem dX8_take_23 : decode cX8_take 23 = .ok (.aload_n 0, 1) := by decide +kernel
theorem dX8_take_24 : decode cX8_take 24 = .ok (.getfield 15, 3) := by decide +kernel
theorem dX8_take_27 : decode cX8_take 27 = .ok (.iload_n 1, 1) := by decide +kernel
theorem dX8_take_28 : decode cX8_take 28 = .ok (.iload_n 2, 1) := by decide +kernel
theorem dX8_take_29 : decode cX8_take 29 = .ok (.ishr, 1) := by decide +kernel
theorem dX8_take_30 : decode cX8_take 30 = .ok (.i2b, 1) := by decide +kernel
theorem dX8_take_31 : decode cX8_take 31 = .ok (.bastore, 1) := by decide +kernel
theorem dX8_take_32 : decode cX8_take 32 = .ok (.aload_n 0, 1) := by decide +kernel
theorem dX8_take_33 : decode cX8_take 33 = .ok (.dup, 1) := by decide +kernel
theorem dX8_take_34 : decode cX8_take 34 = .ok (.getfield 15, 3) := by decide +kernel
theorem dX8_take_37 : decode cX8_take 37 = .ok (.iconst 1, 1) := by decide +kernel
theorem dX8_take_38 : decode cX8_take 38 = .ok (.iadd, 1) := by decide +kernel
theorem dX8_take_39 : decode cX8_take 39 = .ok (.putfield 15, 3) := by decide +kernel
theorem dX8_take_42 : decode cX8_take 42 = .ok (.iinc 2 (-8), 3) := by decide +kernel
theorem dX8_take_45 : decode cX8_take 45 = .ok (.goto (-42), 3) := by decide +kernel
theorem dX8_take_48 : decode cX8_take 48 = .ok (.return_, 1) := by decide +kernel
theorem dX8_byteAt_0 : decode cX8_byteAt 0 = .ok (.iload_n 1, 1) := by decide +kernel
theorem dX8_byteAt_1 : decode cX8_byteAt 1 = .ok (.ifCond .lt 21, 3) := by decide +kernel
theorem dX8_byteAt_4 : decode cX8_byteAt 4 = .ok (.iload_n 1, 1) := by decide +kernel
theorem dX8_byteAt_5 : decode cX8_byteAt 5 = .ok (.aload_n 0, 1) := by decide +kernel
theorem dX8_byteAt_6 : decode cX8_byteAt 6 = .ok (.getfield 9, 3) := by decide +kernel
theorem dX8_byteAt_9 : decode cX8_byteAt 9 = .ok (.arraylength, 1) := by decide +kernel
theorem dX8_byteAt_10 : decode cX8_byteAt 10 = .ok (.if_icmp .ge 12, 3) := by decide +kernel
theorem dX8_byteAt_13 : decode cX8_byteAt 13 = .ok (.aload_n 0, 1) := by decide +kernel
theorem dX8_byteAt_14 : decode cX8_byteAt 14 = .ok (.getfield 9, 3) := by decide +kernel
theorem dX8_byteAt_17 : decode cX8_byteAt 17 = .ok (.iload_n 1, 1) := by decide +kernel
theorem dX8_byteAt_18 : decode cX8_byteAt 18 = .ok (.baload, 1) := by decide +kernel
theorem dX8_byteAt_19 : decode cX8_byteAt 19 = .ok (.goto 4, 3) := by decide +kernel
theorem dX8_byteAt_22 : decode cX8_byteAt 22 = .ok (.iconst 0, 1) := by decide +kernel
theorem dX8_byteAt_23 : decode cX8_byteAt 23 = .ok (.ireturn, 1) := by decide +kernel
theorem dX9_init_0 : decode cX9_init 0 = .ok (.aload_n 0, 1) := by decide +kernel
theorem dX9_init_1 : decode cX9_init 1 = .ok (.invokespecial 3, 3) := by decide +kernel
theorem dX9_init_4 : decode cX9_init 4 = .ok (.aload_n 0, 1) := by decide +kernel
theorem dX9_init_5 : decode cX9_init 5 = .ok (.sipush 1458, 3) := by decide +kernel
theorem dX9_init_8 : decode cX9_init 8 = .ok (.newarray .long, 2) := by decide +kernel
theorem dX9_init_10 : decode cX9_init 10 = .ok (.putfield 9, 3) := by decide +kernel
theorem dX9_init_13 : decode cX9_init 13 = .ok (.aload_n 0, 1) := by decide +kernel
theorem dX9_init_14 : decode cX9_init 14 = .ok (.sipush 1458, 3) := by decide +kernel
theorem dX9_init_17 : decode cX9_init 17 = .ok (.newarray .boolean, 2) := by decide +kernel
theorem dX9_init_19 : decode cX9_init 19 = .ok (.putfield 15, 3) := by decide +kernel
theorem dX9_init_22 : decode cX9_init 22 = .ok (.aload_n 0, 1) := by decide +kernel
theorem dX9_init_23 : decode cX9_init 23 = .ok (.aload_n 1, 1) := by decide +kernel
theorem dX9_init_24 : decode cX9_init 24 = .ok (.putfield 19, 3) := by decide +kernel
theorem dX9_init_27 : decode cX9_init 27 = .ok (.return_, 1) := by decide +kernel
theorem dX9_listWays_0 : decode cX9_listWays 0 = .ok (.aload_n 0, 1) := by decide +kernel
theorem dX9_listWays_1 : decode cX9_listWays 1 = .ok (.iconst 0, 1) := by decide +kernel
theorem dX9_listWays_2 : decode cX9_listWays 2 = .ok (.putfield 23, 3) := by decide +kernel
theorem dX9_listWays_5 : decode cX9_listWays 5 = .ok (.aload_n 0, 1) := by decide +kernel
theorem dX9_listWays_6 : decode cX9_listWays 6 = .ok (.getfield 19, 3) := by decide +kernel
theorem dX9_listWays_9 : decode cX9_listWays 9 = .ok (.getfield 27, 3) := by decide +kernel
theorem dX9_listWays_12 : decode cX9_listWays 12 = .ok (.ifCond .ne 14, 3) := by decide +kernel
theorem dX9_listWays_15 : decode cX9_listWays 15 = .ok (.aload_n 0, 1) := by decide +kernel
theorem dX9_listWays_16 : decode cX9_listWays 16 = .ok (.iconst 0, 1) := by decide +kernel
theorem dX9_listWays_17 : decode cX9_listWays 17 = .ok (.iconst 0, 1) := by decide +kernel
theorem dX9_listWays_18 : decode cX9_listWays 18 = .ok (.iconst 0, 1) := by decide +kernel
theorem dX9_listWays_19 : decode cX9_listWays 19 = .ok (.iconst 0, 1) := by decide +kernel
theorem dX9_listWays_20 : decode cX9_listWays 20 = .ok (.invokevirtual 32, 3) := by decide +kernel
theorem dX9_listWays_23 : decode cX9_listWays 23 = .ok (.goto 29, 3) := by decide +kernel
theorem dX9_listWays_26 : decode cX9_listWays 26 = .ok (.aload_n 0, 1) := by decide +kernel
theorem dX9_listWays_27 : decode cX9_listWays 27 = .ok (.getfield 19, 3) := by decide +kernel
theorem dX9_listWays_30 : decode cX9_listWays 30 = .ok (.getfield 27, 3) := by decide +kernel
theorem dX9_listWays_33 : decode cX9_listWays 33 = .ok (.iconst 1, 1) := by decide +kernel
theorem dX9_listWays_34 : decode cX9_listWays 34 = .ok (.if_icmp .ne 10, 3) := by decide +kernel
theorem dX9_listWays_37 : decode cX9_listWays 37 = .ok (.aload_n 0, 1) := by decide +kernel
theorem dX9_listWays_38 : decode cX9_listWays 38 = .ok (.invokevirtual 36, 3) := by decide +kernel
theorem dX9_listWays_41 : decode cX9_listWays 41 = .ok (.goto 11, 3) := by decide +kernel
theorem dX9_listWays_44 : decode cX9_listWays 44 = .ok (.aload_n 0, 1) := by decide +kernel
theorem dX9_listWays_45 : decode cX9_listWays 45 = .ok (.iconst 0, 1) := by decide +kernel
theorem dX9_listWays_46 : decode cX9_listWays 46 = .ok (.iconst 0, 1) := by decide +kernel
theorem dX9_listWays_47 : decode cX9_listWays 47 = .ok (.iconst 0, 1) := by decide +kernel
theorem dX9_listWays_48 : decode cX9_listWays 48 = .ok (.iconst 0, 1) := by decide +kernel
theorem dX9_listWays_49 : decode cX9_listWays 49 = .ok (.invokevirtual 39, 3) := by decide +kernel
theorem dX9_listWays_52 : decode cX9_listWays 52 = .ok (.aload_n 0, 1) := by decide +kernel
theorem dX9_listWays_53 : decode cX9_listWays 53 = .ok (.invokevirtual 42, 3) := by decide +kernel
theorem dX9_listWays_56 : decode cX9_listWays 56 = .ok (.aload_n 0, 1) := by decide +kernel
theorem dX9_listWays_57 : decode cX9_listWays 57 = .ok (.aload_n 0, 1) := by decide +kernel
theorem dX9_listWays_58 : decode cX9_listWays 58 = .ok (.getfield 19, 3) := by decide +kernel
theorem dX9_listWays_61 : decode cX9_listWays 61 = .ok (.invokevirtual 45, 3) := by decide +kernel
theorem dX9_listWays_64 : decode cX9_listWays 64 = .ok (.putfield 49, 3) := by decide +kernel
theorem dX9_listWays_67 : decode cX9_listWays 67 = .ok (.aload_n 0, 1) := by decide +kernel
theorem dX9_listWays_68 : decode cX9_listWays 68 = .ok (.invokevirtual 52, 3) := by decide +kernel
theorem dX9_listWays_71 : decode cX9_listWays 71 = .ok (.return_, 1) := by decide +kernel
theorem dX9_addWay_0 : decode cX9_addWay 0 = .ok (.aload_n 0, 1) := by decide +kernel
theorem dX9_addWay_1 : decode cX9_addWay 1 = .ok (.getfield 23, 3) := by decide +kernel
theorem dX9_addWay_4 : decode cX9_addWay 4 = .ok (.aload_n 0, 1) := by decide +kernel
theorem dX9_addWay_5 : decode cX9_addWay 5 = .ok (.getfield 9, 3) := by decide +kernel
theorem dX9_addWay_8 : decode cX9_addWay 8 = .ok (.arraylength, 1) := by decide +kernel
theorem dX9_addWay_9 : decode cX9_addWay 9 = .ok (.if_icmp .ge 30, 3) := by decide +kernel
theorem dX9_addWay_12 : decode cX9_addWay 12 = .ok (.aload_n 0, 1) := by decide +kernel
theorem dX9_addWay_13 : decode cX9_addWay 13 = .ok (.getfield 9, 3) := by decide +kernel
theorem dX9_addWay_16 : decode cX9_addWay 16 = .ok (.aload_n 0, 1) := by decide +kernel
theorem dX9_addWay_17 : decode cX9_addWay 17 = .ok (.getfield 23, 3) := by decide +kernel
theorem dX9_addWay_20 : decode cX9_addWay 20 = .ok (.iload_n 2, 1) := by decide +kernel
theorem dX9_addWay_21 : decode cX9_addWay 21 = .ok (.i2l, 1) := by decide +kernel
theorem dX9_addWay_22 : decode cX9_addWay 22 = .ok (.bipush 20, 2) := by decide +kernel
theorem dX9_addWay_24 : decode cX9_addWay 24 = .ok (.lshl, 1) := by decide +kernel
theorem dX9_addWay_25 : decode cX9_addWay 25 = .ok (.iload_n 1, 1) := by decide +kernel
theorem dX9_addWay_26 : decode cX9_addWay 26 = .ok (.i2l, 1) := by decide +kernel
theorem dX9_addWay_27 : decode cX9_addWay 27 = .ok (.lor, 1) := by decide +kernel
theorem dX9_addWay_28 : decode cX9_addWay 28 = .ok (.lastore, 1) := by decide +kernel
theorem dX9_addWay_29 : decode cX9_addWay 29 = .ok (.aload_n 0, 1) := by decide +kernel
theorem dX9_addWay_30 : decode cX9_addWay 30 = .ok (.dup, 1) := by decide +kernel
theorem dX9_addWay_31 : decode cX9_addWay 31 = .ok (.getfield 23, 3) := by decide +kernel
theorem dX9_addWay_34 : decode cX9_addWay 34 = .ok (.iconst 1, 1) := by decide +kernel
theorem dX9_addWay_35 : decode cX9_addWay 35 = .ok (.iadd, 1) := by decide +kernel
theorem dX9_addWay_36 : decode cX9_addWay 36 = .ok (.putfield 23, 3) := by decide +kernel
theorem dX9_addWay_39 : decode cX9_addWay 39 = .ok (.return_, 1) := by decide +kernel
theorem dX9_walk_0 : decode cX9_walk 0 = .ok (.iload_n 1, 1) := by decide +kernel
theorem dX9_walk_1 : decode cX9_walk 1 = .ok (.aload_n 0, 1) := by decide +kernel
theorem dX9_walk_2 : decode cX9_walk 2 = .ok (.getfield 19, 3) := by decide +kernel
theorem dX9_walk_5 : decode cX9_walk 5 = .ok (.getfield 55, 3) := by decide +kernel
theorem dX9_walk_8 : decode cX9_walk 8 = .ok (.iconst 1, 1) := by decide +kernel
theorem dX9_walk_9 : decode cX9_walk 9 = .ok (.isub, 1) := by decide +kernel
theorem dX9_walk_10 : decode cX9_walk 10 = .ok (.if_icmp .ne 10, 3) := by decide +kernel
theorem dX9_walk_13 : decode cX9_walk 13 = .ok (.aload_n 0, 1) := by decide +kernel
theorem dX9_walk_14 : decode cX9_walk 14 = .ok (.iload_n 2, 1) := by decide +kernel
theorem dX9_walk_15 : decode cX9_walk 15 = .ok (.iload_n 3, 1) := by decide +kernel
theorem dX9_walk_16 : decode cX9_walk 16 = .ok (.invokevirtual 58, 3) := by decide +kernel
theorem dX9_walk_19 : decode cX9_walk 19 = .ok (.return_, 1) := by decide +kernel
theorem dX9_walk_20 : decode cX9_walk 20 = .ok (.iload 4, 2) := by decide +kernel
theorem dX9_walk_22 : decode cX9_walk 22 = .ok (.bipush 12, 2) := by decide +kernel
theorem dX9_walk_24 : decode cX9_walk 24 = .ok (.if_icmp .lt 4, 3) := by decide +kernel
theorem dX9_walk_27 : decode cX9_walk 27 = .ok (.return_, 1) := by decide +kernel
theorem dX9_walk_28 : decode cX9_walk 28 = .ok (.iconst 0, 1) := by decide +kernel
theorem dX9_walk_29 : decode cX9_walk 29 = .ok (.istore 5, 2) := by decide +kernel
theorem dX9_walk_31 : decode cX9_walk 31 = .ok (.iload 5, 2) := by decide +kernel
theorem dX9_walk_33 : decode cX9_walk 33 = .ok (.aload_n 0, 1) := by decide +kernel
theorem dX9_walk_34 : decode cX9_walk 34 = .ok (.getfield 19, 3) := by decide +kernel
theorem dX9_walk_37 : decode cX9_walk 37 = .ok (.getfield 62, 3) := by decide +kernel
theorem dX9_walk_40 : decode cX9_walk 40 = .ok (.if_icmp .ge 56, 3) := by decide +kernel
theorem dX9_walk_43 : decode cX9_walk 43 = .ok (.aload_n 0, 1) := by decide +kernel
theorem dX9_walk_44 : decode cX9_walk 44 = .ok (.getfield 19, 3) := by decide +kernel
theorem dX9_walk_47 : decode cX9_walk 47 = .ok (.iload 5, 2) := by decide +kernel
theorem dX9_walk_49 : decode cX9_walk 49 = .ok (.invokevirtual 65, 3) := by decide +kernel
theorem dX9_walk_52 : decode cX9_walk 52 = .ok (.iload_n 1, 1) := by decide +kernel
theorem dX9_walk_53 : decode cX9_walk 53 = .ok (.if_icmp .ne 37, 3) := by decide +kernel
theorem dX9_walk_56 : decode cX9_walk 56 = .ok (.aload_n 0, 1) := by decide +kernel
theorem dX9_walk_57 : decode cX9_walk 57 = .ok (.aload_n 0, 1) := by decide +kernel
theorem dX9_walk_58 : decode cX9_walk 58 = .ok (.getfield 19, 3) := by decide +kernel
theorem dX9_walk_61 : decode cX9_walk 61 = .ok (.iload 5, 2) := by decide +kernel
theorem dX9_walk_63 : decode cX9_walk 63 = .ok (.invokevirtual 69, 3) := by decide +kernel
theorem dX9_walk_66 : decode cX9_walk 66 = .ok (.iload_n 2, 1) := by decide +kernel
theorem dX9_walk_67 : decode cX9_walk 67 = .ok (.iconst 1, 1) := by decide +kernel
theorem dX9_walk_68 : decode cX9_walk 68 = .ok (.iload 5, 2) := by decide +kernel
theorem dX9_walk_70 : decode cX9_walk 70 = .ok (.ishl, 1) := by decide +kernel
theorem dX9_walk_71 : decode cX9_walk 71 = .ok (.ior, 1) := by decide +kernel
theorem dX9_walk_72 : decode cX9_walk 72 = .ok (.iload_n 3, 1) := by decide +kernel
theorem dX9_walk_73 : decode cX9_walk 73 = .ok (.aload_n 0, 1) := by decide +kernel
theorem dX9_walk_74 : decode cX9_walk 74 = .ok (.getfield 19, 3) := by decide +kernel
theorem dX9_walk_77 : decode cX9_walk 77 = .ok (.iload 5, 2) := by decide +kernel
theorem dX9_walk_79 : decode cX9_walk 79 = .ok (.invokevirtual 72, 3) := by decide +kernel
theorem dX9_walk_82 : decode cX9_walk 82 = .ok (.iadd, 1) := by decide +kernel
theorem dX9_walk_83 : decode cX9_walk 83 = .ok (.iload 4, 2) := by decide +kernel
theorem dX9_walk_85 : decode cX9_walk 85 = .ok (.iconst 1, 1) := by decide +kernel
theorem dX9_walk_86 : decode cX9_walk 86 = .ok (.iadd, 1) := by decide +kernel
theorem dX9_walk_87 : decode cX9_walk 87 = .ok (.invokevirtual 32, 3) := by decide +kernel
theorem dX9_walk_90 : decode cX9_walk 90 = .ok (.iinc 5 1, 3) := by decide +kernel
theorem dX9_walk_93 : decode cX9_walk 93 = .ok (.goto (-62), 3) := by decide +kernel
theorem dX9_walk_96 : decode cX9_walk 96 = .ok (.return_, 1) := by decide +kernel
theorem dX9_choose_0 : decode cX9_choose 0 = .ok (.iconst 0, 1) := by decide +kernel
theorem dX9_choose_1 : decode cX9_choose 1 = .ok (.istore_n 1, 1) := by decide +kernel
theorem dX9_choose_2 : decode cX9_choose 2 = .ok (.iload_n 1, 1) := by decide +kernel
theorem dX9_choose_3 : decode cX9_choose 3 = .ok (.iconst 1, 1) := by decide +kernel
theorem dX9_choose_4 : decode cX9_choose 4 = .ok (.aload_n 0, 1) := by decide +kernel
theorem dX9_choose_5 : decode cX9_choose 5 = .ok (.getfield 19, 3) := by decide +kernel
theorem dX9_choose_8 : decode cX9_choose 8 = .ok (.getfield 62, 3) := by decide +kernel
theorem dX9_choose_11 : decode cX9_choose 11 = .ok (.ishl, 1) := by decide +kernel
theorem dX9_choose_12 : decode cX9_choose 12 = .ok (.if_icmp .ge 44, 3) := by decide +kernel
theorem dX9_choose_15 : decode cX9_choose 15 = .ok (.iload_n 1, 1) := by decide +kernel
theorem dX9_choose_16 : decode cX9_choose 16 = .ok (.sipush 4096, 3) := by decide +kernel
theorem dX9_choose_19 : decode cX9_choose 19 = .ok (.if_icmp .ge 37, 3) := by decide +kernel
theorem dX9_choose_22 : decode cX9_choose 22 = .ok (.aload_n 0, 1) := by decide +kernel
theorem dX9_choose_23 : decode cX9_choose 23 = .ok (.getfield 19, 3) := by decide +kernel
theorem dX9_choose_26 : decode cX9_choose 26 = .ok (.iload_n 1, 1) := by decide +kernel
theorem dX9_choose_27 : decode cX9_choose 27 = .ok (.invokevirtual 75, 3) := by decide +kernel
theorem dX9_choose_30 : decode cX9_choose 30 = .ok (.ifCond .eq 20, 3) := by decide +kernel
theorem dX9_choose_33 : decode cX9_choose 33 = .ok (.aload_n 0, 1) := by decide +kernel
theorem dX9_choose_34 : decode cX9_choose 34 = .ok (.iload_n 1, 1) := by decide +kernel
theorem dX9_choose_35 : decode cX9_choose 35 = .ok (.aload_n 0, 1) := by decide +kernel
theorem dX9_choose_36 : decode cX9_choose 36 = .ok (.getfield 19, 3) := by decide +kernel
theorem dX9_choose_39 : decode cX9_choose 39 = .ok (.aload_n 0, 1) := by decide +kernel
theorem dX9_choose_40 : decode cX9_choose 40 = .ok (.getfield 19, 3) := by decide +kernel
theorem dX9_choose_43 : decode cX9_choose 43 = .ok (.iload_n 1, 1) := by decide +kernel
theorem dX9_choose_44 : decode cX9_choose 44 = .ok (.invokevirtual 79, 3) := by decide +kernel
theorem dX9_choose_47 : decode cX9_choose 47 = .ok (.invokevirtual 58, 3) := by decide +kernel
theorem dX9_choose_50 : decode cX9_choose 50 = .ok (.iinc 1 1, 3) := by decide +kernel
theorem dX9_choose_53 : decode cX9_choose 53 = .ok (.goto (-51), 3) := by decide +kernel
theorem dX9_choose_56 : decode cX9_choose 56 = .ok (.return_, 1) := by decide +kernel
theorem dX9_line_0 : decode cX9_line 0 = .ok (.iload 4, 2) := by decide +kernel
theorem dX9_line_2 : decode cX9_line 2 = .ok (.aload_n 0, 1) := by decide +kernel
theorem dX9_line_3 : decode cX9_line 3 = .ok (.getfield 19, 3) := by decide +kernel
theorem dX9_line_6 : decode cX9_line 6 = .ok (.getfield 62, 3) := by decide +kernel
theorem dX9_line_9 : decode cX9_line 9 = .ok (.if_icmp .ge 10, 3) := by decide +kernel
theorem dX9_line_12 : decode cX9_line 12 = .ok (.iload 4, 2) := by decide +kernel
theorem dX9_line_14 : decode cX9_line 14 = .ok (.bipush 6, 2) := by decide +kernel
theorem dX9_line_16 : decode cX9_line 16 = .ok (.if_icmp .lt 10, 3) := by decide +kernel
theorem dX9_line_19 : decode cX9_line 19 = .ok (.aload_n 0, 1) := by decide +kernel
theorem dX9_line_20 : decode cX9_line 20 = .ok (.iload_n 2, 1) := by decide +kernel
theorem dX9_line_21 : decode cX9_line 21 = .ok (.iload_n 3, 1) := by decide +kernel
theorem dX9_line_22 : decode cX9_line 22 = .ok (.invokevirtual 58, 3) := by decide +kernel
theorem dX9_line_25 : decode cX9_line 25 = .ok (.return_, 1) := by decide +kernel
theorem dX9_line_26 : decode cX9_line 26 = .ok (.iconst 0, 1) := by decide +kernel
theorem dX9_line_27 : decode cX9_line 27 = .ok (.istore 5, 2) := by decide +kernel
theorem dX9_line_29 : decode cX9_line 29 = .ok (.iload 5, 2) := by decide +kernel
theorem dX9_line_31 : decode cX9_line 31 = .ok (.aload_n 0, 1) := by decide +kernel
theorem dX9_line_32 : decode cX9_line 32 = .ok (.getfield 19, 3) := by decide +kernel
theorem dX9_line_35 : decode cX9_line 35 = .ok (.getfield 62, 3) := by decide +kernel
theorem dX9_line_38 : decode cX9_line 38 = .ok (.if_icmp .ge 64, 3) := by decide +kernel
theorem dX9_line_41 : decode cX9_line 41 = .ok (.aload_n 0, 1) := by decide +kernel
theorem dX9_line_42 : decode cX9_line 42 = .ok (.getfield 19, 3) := by decide +kernel
theorem dX9_line_45 : decode cX9_line 45 = .ok (.iload 5, 2) := by decide +kernel
theorem dX9_line_47 : decode cX9_line 47 = .ok (.iload_n 1, 1) := by decide +kernel
theorem dX9_line_48 : decode cX9_line 48 = .ok (.invokevirtual 83, 3) := by decide +kernel
theorem dX9_line_51 : decode cX9_line 51 = .ok (.ifCond .eq 45, 3) := by decide +kernel
theorem dX9_line_54 : decode cX9_line 54 = .ok (.iload_n 3, 1) := by decide +kernel
theorem dX9_line_55 : decode cX9_line 55 = .ok (.aload_n 0, 1) := by decide +kernel
theorem dX9_line_56 : decode cX9_line 56 = .ok (.getfield 19, 3) := by decide +kernel
theorem dX9_line_59 : decode cX9_line 59 = .ok (.iload 5, 2) := by decide +kernel
theorem dX9_line_61 : decode cX9_line 61 = .ok (.invokevirtual 72, 3) := by decide +kernel
theorem dX9_line_64 : decode cX9_line 64 = .ok (.iload 4, 2) := by decide +kernel
theorem dX9_line_66 : decode cX9_line 66 = .ok (.iconst 1, 1) := by decide +kernel
theorem dX9_line_67 : decode cX9_line 67 = .ok (.iadd, 1) := by decide +kernel
theorem dX9_line_68 : decode cX9_line 68 = .ok (.imul, 1) := by decide +kernel
theorem dX9_line_69 : decode cX9_line 69 = .ok (.iadd, 1) := by decide +kernel
theorem dX9_line_70 : decode cX9_line 70 = .ok (.istore 6, 2) := by decide +kernel
theorem dX9_line_72 : decode cX9_line 72 = .ok (.aload_n 0, 1) := by decide +kernel
theorem dX9_line_73 : decode cX9_line 73 = .ok (.iload_n 1, 1) := by decide +kernel
theorem dX9_line_74 : decode cX9_line 74 = .ok (.iconst 1, 1) := by decide +kernel
theorem dX9_line_75 : decode cX9_line 75 = .ok (.iload 5, 2) := by decide +kernel
theorem dX9_line_77 : decode cX9_line 77 = .ok (.ishl, 1) := by decide +kernel
theorem dX9_line_78 : decode cX9_line 78 = .ok (.ior, 1) := by decide +kernel
theorem dX9_line_79 : decode cX9_line 79 = .ok (.iload_n 2, 1) := by decide +kernel
theorem dX9_line_80 : decode cX9_line 80 = .ok (.iload 5, 2) := by decide +kernel
theorem dX9_line_82 : decode cX9_line 82 = .ok (.iload_n 1, 1) := by decide +kernel
theorem dX9_line_83 : decode cX9_line 83 = .ok (.invokestatic 87, 3) := by decide +kernel
theorem dX9_line_86 : decode cX9_line 86 = .ok (.ior, 1) := by decide +kernel
theorem dX9_line_87 : decode cX9_line 87 = .ok (.iload 6, 2) := by decide +kernel
theorem dX9_line_89 : decode cX9_line 89 = .ok (.iload 4, 2) := by decide +kernel
theorem dX9_line_91 : decode cX9_line 91 = .ok (.iconst 1, 1) := by decide +kernel
theorem dX9_line_92 : decode cX9_line 92 = .ok (.iadd, 1) := by decide +kernel
theorem dX9_line_93 : decode cX9_line 93 = .ok (.invokevirtual 39, 3) := by decide +kernel
theorem dX9_line_96 : decode cX9_line 96 = .ok (.iinc 5 1, 3) := by decide +kernel
theorem dX9_line_99 : decode cX9_line 99 = .ok (.goto (-70), 3) := by decide +kernel
theorem dX9_line_102 : decode cX9_line 102 = .ok (.return_, 1) := by decide +kernel
theorem dX9_bitsBehind_0 : decode cX9_bitsBehind 0 = .ok (.iconst 0, 1) := by decide +kernel
theorem dX9_bitsBehind_1 : decode cX9_bitsBehind 1 = .ok (.istore_n 2, 1) := by decide +kernel
theorem dX9_bitsBehind_2 : decode cX9_bitsBehind 2 = .ok (.iconst 0, 1) := by decide +kernel
theorem dX9_bitsBehind_3 : decode cX9_bitsBehind 3 = .ok (.istore_n 3, 1) := by decide +kernel
theorem dX9_bitsBehind_4 : decode cX9_bitsBehind 4 = .ok (.iload_n 3, 1) := by decide +kernel
theorem dX9_bitsBehind_5 : decode cX9_bitsBehind 5 = .ok (.iload_n 0, 1) := by decide +kernel
theorem dX9_bitsBehind_6 : decode cX9_bitsBehind 6 = .ok (.if_icmp .ge 25, 3) := by decide +kernel
theorem dX9_bitsBehind_9 : decode cX9_bitsBehind 9 = .ok (.iload_n 1, 1) := by decide +kernel
theorem dX9_bitsBehind_10 : decode cX9_bitsBehind 10 = .ok (.iload_n 3, 1) := by decide +kernel
theorem dX9_bitsBehind_11 : decode cX9_bitsBehind 11 = .ok (.ishr, 1) := by decide +kernel
theorem dX9_bitsBehind_12 : decode cX9_bitsBehind 12 = .ok (.iconst 1, 1) := by decide +kernel
theorem dX9_bitsBehind_13 : decode cX9_bitsBehind 13 = .ok (.iand, 1) := by decide +kernel
theorem dX9_bitsBehind_14 : decode cX9_bitsBehind 14 = .ok (.ifCond .eq 11, 3) := by decide +kernel
theorem dX9_bitsBehind_17 : decode cX9_bitsBehind 17 = .ok (.iload_n 2, 1) := by decide +kernel
theorem dX9_bitsBehind_18 : decode cX9_bitsBehind 18 = .ok (.iload_n 3, 1) := by decide +kernel
theorem dX9_bitsBehind_19 : decode cX9_bitsBehind 19 = .ok (.iload_n 0, 1) := by decide +kernel
theorem dX9_bitsBehind_20 : decode cX9_bitsBehind 20 = .ok (.invokestatic 91, 3) := by decide +kernel
theorem dX9_bitsBehind_23 : decode cX9_bitsBehind 23 = .ok (.ior, 1) := by decide +kernel
theorem dX9_bitsBehind_24 : decode cX9_bitsBehind 24 = .ok (.istore_n 2, 1) := by decide +kernel
theorem dX9_bitsBehind_25 : decode cX9_bitsBehind 25 = .ok (.iinc 3 1, 3) := by decide +kernel
theorem dX9_bitsBehind_28 : decode cX9_bitsBehind 28 = .ok (.goto (-24), 3) := by decide +kernel
theorem dX9_bitsBehind_31 : decode cX9_bitsBehind 31 = .ok (.iload_n 2, 1) := by decide +kernel
theorem dX9_bitsBehind_32 : decode cX9_bitsBehind 32 = .ok (.ireturn, 1) := by decide +kernel
theorem dX9_sort_0 : decode cX9_sort 0 = .ok (.sipush 1093, 3) := by decide +kernel
theorem dX9_sort_3 : decode cX9_sort 3 = .ok (.istore_n 1, 1) := by decide +kernel
theorem dX9_sort_4 : decode cX9_sort 4 = .ok (.iload_n 1, 1) := by decide +kernel
theorem dX9_sort_5 : decode cX9_sort 5 = .ok (.ifCond .le 98, 3) := by decide +kernel
theorem dX9_sort_8 : decode cX9_sort 8 = .ok (.iload_n 1, 1) := by decide +kernel
theorem dX9_sort_9 : decode cX9_sort 9 = .ok (.istore_n 2, 1) := by decide +kernel
theorem dX9_sort_10 : decode cX9_sort 10 = .ok (.iload_n 2, 1) := by decide +kernel
theorem dX9_sort_11 : decode cX9_sort 11 = .ok (.aload_n 0, 1) := by decide +kernel
theorem dX9_sort_12 : decode cX9_sort 12 = .ok (.getfield 23, 3) := by decide +kernel
theorem dX9_sort_15 : decode cX9_sort 15 = .ok (.if_icmp .ge 81, 3) := by decide +kernel
theorem dX9_sort_18 : decode cX9_sort 18 = .ok (.iload_n 2, 1) := by decide +kernel
theorem dX9_sort_19 : decode cX9_sort 19 = .ok (.aload_n 0, 1) := by decide +kernel
theorem dX9_sort_20 : decode cX9_sort 20 = .ok (.getfield 9, 3) := by decide +kernel
theorem dX9_sort_23 : decode cX9_sort 23 = .ok (.arraylength, 1) := by decide +kernel
theorem dX9_sort_24 : decode cX9_sort 24 = .ok (.if_icmp .ge 72, 3) := by decide +kernel
theorem dX9_sort_27 : decode cX9_sort 27 = .ok (.aload_n 0, 1) := by decide +kernel
theorem dX9_sort_28 : decode cX9_sort 28 = .ok (.getfield 9, 3) := by decide +kernel
theorem dX9_sort_31 : decode cX9_sort 31 = .ok (.iload_n 2, 1) := by decide +kernel
theorem dX9_sort_32 : decode cX9_sort 32 = .ok (.laload, 1) := by decide +kernel
theorem dX9_sort_33 : decode cX9_sort 33 = .ok (.lstore_n 3, 1) := by decide +kernel
theorem dX9_sort_34 : decode cX9_sort 34 = .ok (.iload_n 2, 1) := by decide +kernel
theorem dX9_sort_35 : decode cX9_sort 35 = .ok (.istore 5, 2) := by decide +kernel
theorem dX9_sort_37 : decode cX9_sort 37 = .ok (.iload 5, 2) := by decide +kernel
theorem dX9_sort_39 : decode cX9_sort 39 = .ok (.iload_n 1, 1) := by decide +kernel
theorem dX9_sort_40 : decode cX9_sort 40 = .ok (.if_icmp .lt 42, 3) := by decide +kernel
theorem dX9_sort_43 : decode cX9_sort 43 = .ok (.aload_n 0, 1) := by decide +kernel
theorem dX9_sort_44 : decode cX9_sort 44 = .ok (.getfield 9, 3) := by decide +kernel
theorem dX9_sort_47 : decode cX9_sort 47 = .ok (.iload 5, 2) := by decide +kernel
theorem dX9_sort_49 : decode cX9_sort 49 = .ok (.iload_n 1, 1) := by decide +kernel
theorem dX9_sort_50 : decode cX9_sort 50 = .ok (.isub, 1) := by decide +kernel
theorem dX9_sort_51 : decode cX9_sort 51 = .ok (.laload, 1) := by decide +kernel
theorem dX9_sort_52 : decode cX9_sort 52 = .ok (.lload_n 3, 1) := by decide +kernel
theorem dX9_sort_53 : decode cX9_sort 53 = .ok (.lcmp, 1) := by decide +kernel
theorem dX9_sort_54 : decode cX9_sort 54 = .ok (.ifCond .le 28, 3) := by decide +kernel
theorem dX9_sort_57 : decode cX9_sort 57 = .ok (.aload_n 0, 1) := by decide +kernel
theorem dX9_sort_58 : decode cX9_sort 58 = .ok (.getfield 9, 3) := by decide +kernel
theorem dX9_sort_61 : decode cX9_sort 61 = .ok (.iload 5, 2) := by decide +kernel
theorem dX9_sort_63 : decode cX9_sort 63 = .ok (.aload_n 0, 1) := by decide +kernel
theorem dX9_sort_64 : decode cX9_sort 64 = .ok (.getfield 9, 3) := by decide +kernel
theorem dX9_sort_67 : decode cX9_sort 67 = .ok (.iload 5, 2) := by decide +kernel
theorem dX9_sort_69 : decode cX9_sort 69 = .ok (.iload_n 1, 1) := by decide +kernel
theorem dX9_sort_70 : decode cX9_sort 70 = .ok (.isub, 1) := by decide +kernel
theorem dX9_sort_71 : decode cX9_sort 71 = .ok (.laload, 1) := by decide +kernel
theorem dX9_sort_72 : decode cX9_sort 72 = .ok (.lastore, 1) := by decide +kernel
theorem dX9_sort_73 : decode cX9_sort 73 = .ok (.iload 5, 2) := by decide +kernel
theorem dX9_sort_75 : decode cX9_sort 75 = .ok (.iload_n 1, 1) := by decide +kernel
theorem dX9_sort_76 : decode cX9_sort 76 = .ok (.isub, 1) := by decide +kernel
theorem dX9_sort_77 : decode cX9_sort 77 = .ok (.istore 5, 2) := by decide +kernel
theorem dX9_sort_79 : decode cX9_sort 79 = .ok (.goto (-42), 3) := by decide +kernel
theorem dX9_sort_82 : decode cX9_sort 82 = .ok (.aload_n 0, 1) := by decide +kernel
theorem dX9_sort_83 : decode cX9_sort 83 = .ok (.getfield 9, 3) := by decide +kernel
theorem dX9_sort_86 : decode cX9_sort 86 = .ok (.iload 5, 2) := by decide +kernel
theorem dX9_sort_88 : decode cX9_sort 88 = .ok (.lload_n 3, 1) := by decide +kernel
theorem dX9_sort_89 : decode cX9_sort 89 = .ok (.lastore, 1) := by decide +kernel
theorem dX9_sort_90 : decode cX9_sort 90 = .ok (.iinc 2 1, 3) := by decide +kernel
theorem dX9_sort_93 : decode cX9_sort 93 = .ok (.goto (-83), 3) := by decide +kernel
theorem dX9_sort_96 : decode cX9_sort 96 = .ok (.iload_n 1, 1) := by decide +kernel
theorem dX9_sort_97 : decode cX9_sort 97 = .ok (.iconst 3, 1) := by decide +kernel
theorem dX9_sort_98 : decode cX9_sort 98 = .ok (.idiv, 1) := by decide +kernel
theorem dX9_sort_99 : decode cX9_sort 99 = .ok (.istore_n 1, 1) := by decide +kernel
theorem dX9_sort_100 : decode cX9_sort 100 = .ok (.goto (-96), 3) := by decide +kernel
theorem dX9_sort_103 : decode cX9_sort 103 = .ok (.return_, 1) := by decide +kernel
theorem dX9_has_0 : decode cX9_has 0 = .ok (.iload_n 1, 1) := by decide +kernel
theorem dX9_has_1 : decode cX9_has 1 = .ok (.ifCond .lt 22, 3) := by decide +kernel
theorem dX9_has_4 : decode cX9_has 4 = .ok (.iload_n 1, 1) := by decide +kernel
theorem dX9_has_5 : decode cX9_has 5 = .ok (.aload_n 0, 1) := by decide +kernel
theorem dX9_has_6 : decode cX9_has 6 = .ok (.getfield 23, 3) := by decide +kernel
theorem dX9_has_9 : decode cX9_has 9 = .ok (.if_icmp .ge 14, 3) := by decide +kernel
theorem dX9_has_12 : decode cX9_has 12 = .ok (.iload_n 1, 1) := by decide +kernel
theorem dX9_has_13 : decode cX9_has 13 = .ok (.sipush 1458, 3) := by decide +kernel
theorem dX9_has_16 : decode cX9_has 16 = .ok (.if_icmp .ge 7, 3) := by decide +kernel
theorem dX9_has_19 : decode cX9_has 19 = .ok (.iconst 1, 1) := by decide +kernel
theorem dX9_has_20 : decode cX9_has 20 = .ok (.goto 4, 3) := by decide +kernel
theorem dX9_has_23 : decode cX9_has 23 = .ok (.iconst 0, 1) := by decide +kernel
theorem dX9_has_24 : decode cX9_has 24 = .ok (.ireturn, 1) := by decide +kernel
theorem dX9_costOf_0 : decode cX9_costOf 0 = .ok (.aload_n 0, 1) := by decide +kernel
theorem dX9_costOf_1 : decode cX9_costOf 1 = .ok (.iload_n 1, 1) := by decide +kernel
theorem dX9_costOf_2 : decode cX9_costOf 2 = .ok (.invokevirtual 94, 3) := by decide +kernel
theorem dX9_costOf_5 : decode cX9_costOf 5 = .ok (.ifCond .eq 16, 3) := by decide +kernel
theorem dX9_costOf_8 : decode cX9_costOf 8 = .ok (.aload_n 0, 1) := by decide +kernel
theorem dX9_costOf_9 : decode cX9_costOf 9 = .ok (.getfield 9, 3) := by decide +kernel
theorem dX9_costOf_12 : decode cX9_costOf 12 = .ok (.iload_n 1, 1) := by decide +kernel
theorem dX9_costOf_13 : decode cX9_costOf 13 = .ok (.laload, 1) := by decide +kernel
theorem dX9_costOf_14 : decode cX9_costOf 14 = .ok (.bipush 20, 2) := by decide +kernel
theorem dX9_costOf_16 : decode cX9_costOf 16 = .ok (.lshr, 1) := by decide +kernel
theorem dX9_costOf_17 : decode cX9_costOf 17 = .ok (.l2i, 1) := by decide +kernel
theorem dX9_costOf_18 : decode cX9_costOf 18 = .ok (.goto 4, 3) := by decide +kernel
theorem dX9_costOf_21 : decode cX9_costOf 21 = .ok (.iconst 0, 1) := by decide +kernel
theorem dX9_costOf_22 : decode cX9_costOf 22 = .ok (.ireturn, 1) := by decide +kernel
theorem dX9_markOf_0 : decode cX9_markOf 0 = .ok (.aload_n 0, 1) := by decide +kernel
theorem dX9_markOf_1 : decode cX9_markOf 1 = .ok (.iload_n 1, 1) := by decide +kernel
theorem dX9_markOf_2 : decode cX9_markOf 2 = .ok (.invokevirtual 94, 3) := by decide +kernel
theorem dX9_markOf_5 : decode cX9_markOf 5 = .ok (.ifCond .eq 16, 3) := by decide +kernel
theorem dX9_markOf_8 : decode cX9_markOf 8 = .ok (.aload_n 0, 1) := by decide +kernel
theorem dX9_markOf_9 : decode cX9_markOf 9 = .ok (.getfield 9, 3) := by decide +kernel
theorem dX9_markOf_12 : decode cX9_markOf 12 = .ok (.iload_n 1, 1) := by decide +kernel
theorem dX9_markOf_13 : decode cX9_markOf 13 = .ok (.laload, 1) := by decide +kernel
theorem dX9_markOf_14 : decode cX9_markOf 14 = .ok (.l2i, 1) := by decide +kernel
theorem dX9_markOf_15 : decode cX9_markOf 15 = .ok (.ldc 97, 2) := by decide +kernel
theorem dX9_markOf_17 : decode cX9_markOf 17 = .ok (.iand, 1) := by decide +kernel
theorem dX9_markOf_18 : decode cX9_markOf 18 = .ok (.goto 4, 3) := by decide +kernel
theorem dX9_markOf_21 : decode cX9_markOf 21 = .ok (.iconst 0, 1) := by decide +kernel
theorem dX9_markOf_22 : decode cX9_markOf 22 = .ok (.ireturn, 1) := by decide +kernel
theorem dX9_isSpent_0 : decode cX9_isSpent 0 = .ok (.aload_n 0, 1) := by decide +kernel
theorem dX9_isSpent_1 : decode cX9_isSpent 1 = .ok (.iload_n 1, 1) := by decide +kernel
theorem dX9_isSpent_2 : decode cX9_isSpent 2 = .ok (.invokevirtual 94, 3) := by decide +kernel
theorem dX9_isSpent_5 : decode cX9_isSpent 5 = .ok (.ifCond .eq 12, 3) := by decide +kernel
theorem dX9_isSpent_8 : decode cX9_isSpent 8 = .ok (.aload_n 0, 1) := by decide +kernel
theorem dX9_isSpent_9 : decode cX9_isSpent 9 = .ok (.getfield 15, 3) := by decide +kernel
theorem dX9_isSpent_12 : decode cX9_isSpent 12 = .ok (.iload_n 1, 1) := by decide +kernel
theorem dX9_isSpent_13 : decode cX9_isSpent 13 = .ok (.baload, 1) := by decide +kernel
theorem dX9_isSpent_14 : decode cX9_isSpent 14 = .ok (.ifCond .eq 7, 3) := by decide +kernel
theorem dX9_isSpent_17 : decode cX9_isSpent 17 = .ok (.iconst 1, 1) := by decide +kernel
theorem dX9_isSpent_18 : decode cX9_isSpent 18 = .ok (.goto 4, 3) := by decide +kernel
theorem dX9_isSpent_21 : decode cX9_isSpent 21 = .ok (.iconst 0, 1) := by decide +kernel
theorem dX9_isSpent_22 : decode cX9_isSpent 22 = .ok (.ireturn, 1) := by decide +kernel
theorem dX9_withMark_0 : decode cX9_withMark 0 = .ok (.iconst 0, 1) := by decide +kernel
theorem dX9_withMark_1 : decode cX9_withMark 1 = .ok (.istore_n 2, 1) := by decide +kernel
theorem dX9_withMark_2 : decode cX9_withMark 2 = .ok (.iload_n 2, 1) := by decide +kernel
theorem dX9_withMark_3 : decode cX9_withMark 3 = .ok (.aload_n 0, 1) := by decide +kernel
theorem dX9_withMark_4 : decode cX9_withMark 4 = .ok (.getfield 23, 3) := by decide +kernel
theorem dX9_withMark_7 : decode cX9_withMark 7 = .ok (.if_icmp .ge 20, 3) := by decide +kernel
theorem dX9_withMark_10 : decode cX9_withMark 10 = .ok (.aload_n 0, 1) := by decide +kernel
theorem dX9_withMark_11 : decode cX9_withMark 11 = .ok (.iload_n 2, 1) := by decide +kernel
theorem dX9_withMark_12 : decode cX9_withMark 12 = .ok (.invokevirtual 98, 3) := by decide +kernel
theorem dX9_withMark_15 : decode cX9_withMark 15 = .ok (.iload_n 1, 1) := by decide +kernel
theorem dX9_withMark_16 : decode cX9_withMark 16 = .ok (.if_icmp .ne 5, 3) := by decide +kernel
theorem dX9_withMark_19 : decode cX9_withMark 19 = .ok (.iload_n 2, 1) := by decide +kernel
theorem dX9_withMark_20 : decode cX9_withMark 20 = .ok (.ireturn, 1) := by decide +kernel
theorem dX9_withMark_21 : decode cX9_withMark 21 = .ok (.iinc 2 1, 3) := by decide +kernel
theorem dX9_withMark_24 : decode cX9_withMark 24 = .ok (.goto (-22), 3) := by decide +kernel
theorem dX9_withMark_27 : decode cX9_withMark 27 = .ok (.iconst (-1), 1) := by decide +kernel
theorem dX9_withMark_28 : decode cX9_withMark 28 = .ok (.ireturn, 1) := by decide +kernel
theorem dX9_nextUnspent_0 : decode cX9_nextUnspent 0 = .ok (.iload_n 1, 1) := by decide +kernel
theorem dX9_nextUnspent_1 : decode cX9_nextUnspent 1 = .ok (.ifCond .ge 7, 3) := by decide +kernel
theorem dX9_nextUnspent_4 : decode cX9_nextUnspent 4 = .ok (.iconst 0, 1) := by decide +kernel
theorem dX9_nextUnspent_5 : decode cX9_nextUnspent 5 = .ok (.goto 4, 3) := by decide +kernel
theorem dX9_nextUnspent_8 : decode cX9_nextUnspent 8 = .ok (.iload_n 1, 1) := by decide +kernel
theorem dX9_nextUnspent_9 : decode cX9_nextUnspent 9 = .ok (.istore_n 2, 1) := by decide +kernel
theorem dX9_nextUnspent_10 : decode cX9_nextUnspent 10 = .ok (.iload_n 2, 1) := by decide +kernel
theorem dX9_nextUnspent_11 : decode cX9_nextUnspent 11 = .ok (.aload_n 0, 1) := by decide +kernel
theorem dX9_nextUnspent_12 : decode cX9_nextUnspent 12 = .ok (.getfield 23, 3) := by decide +kernel
theorem dX9_nextUnspent_15 : decode cX9_nextUnspent 15 = .ok (.if_icmp .ge 19, 3) := by decide +kernel
theorem dX9_nextUnspent_18 : decode cX9_nextUnspent 18 = .ok (.aload_n 0, 1) := by decide +kernel
theorem dX9_nextUnspent_19 : decode cX9_nextUnspent 19 = .ok (.iload_n 2, 1) := by decide +kernel
theorem dX9_nextUnspent_20 : decode cX9_nextUnspent 20 = .ok (.invokevirtual 101, 3) := by decide +kernel
theorem dX9_nextUnspent_23 : decode cX9_nextUnspent 23 = .ok (.ifCond .ne 5, 3) := by decide +kernel
theorem dX9_nextUnspent_26 : decode cX9_nextUnspent 26 = .ok (.iload_n 2, 1) := by decide +kernel
theorem dX9_nextUnspent_27 : decode cX9_nextUnspent 27 = .ok (.ireturn, 1) := by decide +kernel
theorem dX9_nextUnspent_28 : decode cX9_nextUnspent 28 = .ok (.iinc 2 1, 3) := by decide +kernel
theorem dX9_nextUnspent_31 : decode cX9_nextUnspent 31 = .ok (.goto (-21), 3) := by decide +kernel
theorem dX9_nextUnspent_34 : decode cX9_nextUnspent 34 = .ok (.iconst (-1), 1) := by decide +kernel
theorem dX9_nextUnspent_35 : decode cX9_nextUnspent 35 = .ok (.ireturn, 1) := by decide +kernel
theorem dX9_unspentAt_0 : decode cX9_unspentAt 0 = .ok (.iconst 0, 1) := by decide +kernel
theorem dX9_unspentAt_1 : decode cX9_unspentAt 1 = .ok (.istore_n 2, 1) := by decide +kernel
theorem dX9_unspentAt_2 : decode cX9_unspentAt 2 = .ok (.iconst 0, 1) := by decide +kernel
theorem dX9_unspentAt_3 : decode cX9_unspentAt 3 = .ok (.istore_n 3, 1) := by decide +kernel
theorem dX9_unspentAt_4 : decode cX9_unspentAt 4 = .ok (.iload_n 3, 1) := by decide +kernel
theorem dX9_unspentAt_5 : decode cX9_unspentAt 5 = .ok (.aload_n 0, 1) := by decide +kernel
theorem dX9_unspentAt_6 : decode cX9_unspentAt 6 = .ok (.getfield 23, 3) := by decide +kernel
theorem dX9_unspentAt_9 : decode cX9_unspentAt 9 = .ok (.if_icmp .ge 27, 3) := by decide +kernel
theorem dX9_unspentAt_12 : decode cX9_unspentAt 12 = .ok (.aload_n 0, 1) := by decide +kernel
theorem dX9_unspentAt_13 : decode cX9_unspentAt 13 = .ok (.iload_n 3, 1) := by decide +kernel
theorem dX9_unspentAt_14 : decode cX9_unspentAt 14 = .ok (.invokevirtual 101, 3) := by decide +kernel
theorem dX9_unspentAt_17 : decode cX9_unspentAt 17 = .ok (.ifCond .ne 13, 3) := by decide +kernel
theorem dX9_unspentAt_20 : decode cX9_unspentAt 20 = .ok (.iload_n 2, 1) := by decide +kernel
theorem dX9_unspentAt_21 : decode cX9_unspentAt 21 = .ok (.iload_n 1, 1) := by decide +kernel
theorem dX9_unspentAt_22 : decode cX9_unspentAt 22 = .ok (.if_icmp .ne 5, 3) := by decide +kernel
theorem dX9_unspentAt_25 : decode cX9_unspentAt 25 = .ok (.iload_n 3, 1) := by decide +kernel
theorem dX9_unspentAt_26 : decode cX9_unspentAt 26 = .ok (.ireturn, 1) := by decide +kernel
theorem dX9_unspentAt_27 : decode cX9_unspentAt 27 = .ok (.iinc 2 1, 3) := by decide +kernel
theorem dX9_unspentAt_30 : decode cX9_unspentAt 30 = .ok (.iinc 3 1, 3) := by decide +kernel
theorem dX9_unspentAt_33 : decode cX9_unspentAt 33 = .ok (.goto (-29), 3) := by decide +kernel
theorem dX9_unspentAt_36 : decode cX9_unspentAt 36 = .ok (.iconst (-1), 1) := by decide +kernel
theorem dX9_unspentAt_37 : decode cX9_unspentAt 37 = .ok (.ireturn, 1) := by decide +kernel
theorem dX9_rankOf_0 : decode cX9_rankOf 0 = .ok (.aload_n 0, 1) := by decide +kernel
theorem dX9_rankOf_1 : decode cX9_rankOf 1 = .ok (.iload_n 1, 1) := by decide +kernel
theorem dX9_rankOf_2 : decode cX9_rankOf 2 = .ok (.invokevirtual 101, 3) := by decide +kernel
theorem dX9_rankOf_5 : decode cX9_rankOf 5 = .ok (.ifCond .eq 5, 3) := by decide +kernel
theorem dX9_rankOf_8 : decode cX9_rankOf 8 = .ok (.iconst (-1), 1) := by decide +kernel
theorem dX9_rankOf_9 : decode cX9_rankOf 9 = .ok (.ireturn, 1) := by decide +kernel
theorem dX9_rankOf_10 : decode cX9_rankOf 10 = .ok (.iconst 0, 1) := by decide +kernel
theorem dX9_rankOf_11 : decode cX9_rankOf 11 = .ok (.istore_n 2, 1) := by decide +kernel
theorem dX9_rankOf_12 : decode cX9_rankOf 12 = .ok (.iconst 0, 1) := by decide +kernel
theorem dX9_rankOf_13 : decode cX9_rankOf 13 = .ok (.istore_n 3, 1) := by decide +kernel
theorem dX9_rankOf_14 : decode cX9_rankOf 14 = .ok (.iload_n 3, 1) := by decide +kernel
theorem dX9_rankOf_15 : decode cX9_rankOf 15 = .ok (.iload_n 1, 1) := by decide +kernel
theorem dX9_rankOf_16 : decode cX9_rankOf 16 = .ok (.if_icmp .ge 20, 3) := by decide +kernel
theorem dX9_rankOf_19 : decode cX9_rankOf 19 = .ok (.aload_n 0, 1) := by decide +kernel
theorem dX9_rankOf_20 : decode cX9_rankOf 20 = .ok (.iload_n 3, 1) := by decide +kernel
theorem dX9_rankOf_21 : decode cX9_rankOf 21 = .ok (.invokevirtual 101, 3) := by decide +kernel
theorem dX9_rankOf_24 : decode cX9_rankOf 24 = .ok (.ifCond .ne 6, 3) := by decide +kernel
theorem dX9_rankOf_27 : decode cX9_rankOf 27 = .ok (.iinc 2 1, 3) := by decide +kernel
theorem dX9_rankOf_30 : decode cX9_rankOf 30 = .ok (.iinc 3 1, 3) := by decide +kernel
theorem dX9_rankOf_33 : decode cX9_rankOf 33 = .ok (.goto (-19), 3) := by decide +kernel
theorem dX9_rankOf_36 : decode cX9_rankOf 36 = .ok (.iload_n 2, 1) := by decide +kernel
theorem dX9_rankOf_37 : decode cX9_rankOf 37 = .ok (.ireturn, 1) := by decide +kernel
theorem dX9_areSame_0 : decode cX9_areSame 0 = .ok (.iload_n 1, 1) := by decide +kernel
theorem dX9_areSame_1 : decode cX9_areSame 1 = .ok (.iload_n 2, 1) := by decide +kernel
theorem dX9_areSame_2 : decode cX9_areSame 2 = .ok (.ixor, 1) := by decide +kernel
theorem dX9_areSame_3 : decode cX9_areSame 3 = .ok (.aload_n 0, 1) := by decide +kernel
theorem dX9_areSame_4 : decode cX9_areSame 4 = .ok (.aload_n 0, 1) := by decide +kernel
theorem dX9_areSame_5 : decode cX9_areSame 5 = .ok (.getfield 19, 3) := by decide +kernel
theorem dX9_areSame_8 : decode cX9_areSame 8 = .ok (.getfield 104, 3) := by decide +kernel
theorem dX9_areSame_11 : decode cX9_areSame 11 = .ok (.invokevirtual 107, 3) := by decide +kernel
theorem dX9_areSame_14 : decode cX9_areSame 14 = .ok (.iand, 1) := by decide +kernel
theorem dX9_areSame_15 : decode cX9_areSame 15 = .ok (.invokestatic 110, 3) := by decide +kernel
theorem dX9_areSame_18 : decode cX9_areSame 18 = .ok (.aload_n 0, 1) := by decide +kernel
theorem dX9_areSame_19 : decode cX9_areSame 19 = .ok (.getfield 19, 3) := by decide +kernel
theorem dX9_areSame_22 : decode cX9_areSame 22 = .ok (.getfield 104, 3) := by decide +kernel
theorem dX9_areSame_25 : decode cX9_areSame 25 = .ok (.aload_n 0, 1) := by decide +kernel
theorem dX9_areSame_26 : decode cX9_areSame 26 = .ok (.getfield 19, 3) := by decide +kernel
theorem dX9_areSame_29 : decode cX9_areSame 29 = .ok (.getfield 115, 3) := by decide +kernel
theorem dX9_areSame_32 : decode cX9_areSame 32 = .ok (.invokestatic 118, 3) := by decide +kernel
theorem dX9_areSame_35 : decode cX9_areSame 35 = .ok (.if_icmp .ge 7, 3) := by decide +kernel
theorem dX9_areSame_38 : decode cX9_areSame 38 = .ok (.iconst 1, 1) := by decide +kernel
theorem dX9_areSame_39 : decode cX9_areSame 39 = .ok (.goto 4, 3) := by decide +kernel
theorem dX9_areSame_42 : decode cX9_areSame 42 = .ok (.iconst 0, 1) := by decide +kernel
theorem dX9_areSame_43 : decode cX9_areSame 43 = .ok (.ireturn, 1) := by decide +kernel
theorem dX9_setSame_0 : decode cX9_setSame 0 = .ok (.aload_n 0, 1) := by decide +kernel
theorem dX9_setSame_1 : decode cX9_setSame 1 = .ok (.iload 4, 2) := by decide +kernel
theorem dX9_setSame_3 : decode cX9_setSame 3 = .ok (.invokevirtual 94, 3) := by decide +kernel
theorem dX9_setSame_6 : decode cX9_setSame 6 = .ok (.ifCond .eq 15, 3) := by decide +kernel
theorem dX9_setSame_9 : decode cX9_setSame 9 = .ok (.iload 4, 2) := by decide +kernel
theorem dX9_setSame_11 : decode cX9_setSame 11 = .ok (.aload_n 1, 1) := by decide +kernel
theorem dX9_setSame_12 : decode cX9_setSame 12 = .ok (.arraylength, 1) := by decide +kernel
theorem dX9_setSame_13 : decode cX9_setSame 13 = .ok (.if_icmp .ge 8, 3) := by decide +kernel
theorem dX9_setSame_16 : decode cX9_setSame 16 = .ok (.iload 5, 2) := by decide +kernel
theorem dX9_setSame_18 : decode cX9_setSame 18 = .ok (.ifCond .ge 5, 3) := by decide +kernel
theorem dX9_setSame_21 : decode cX9_setSame 21 = .ok (.iconst 0, 1) := by decide +kernel
theorem dX9_setSame_22 : decode cX9_setSame 22 = .ok (.ireturn, 1) := by decide +kernel
theorem dX9_setSame_23 : decode cX9_setSame 23 = .ok (.aload_n 1, 1) := by decide +kernel
theorem dX9_setSame_24 : decode cX9_setSame 24 = .ok (.iload 4, 2) := by decide +kernel
theorem dX9_setSame_26 : decode cX9_setSame 26 = .ok (.baload, 1) := by decide +kernel
theorem dX9_setSame_27 : decode cX9_setSame 27 = .ok (.ifCond .eq 7, 3) := by decide +kernel
theorem dX9_setSame_30 : decode cX9_setSame 30 = .ok (.iconst 0, 1) := by decide +kernel
theorem dX9_setSame_31 : decode cX9_setSame 31 = .ok (.goto 4, 3) := by decide +kernel
theorem dX9_setSame_34 : decode cX9_setSame 34 = .ok (.iconst 1, 1) := by decide +kernel
theorem dX9_setSame_35 : decode cX9_setSame 35 = .ok (.istore 6, 2) := by decide +kernel
theorem dX9_setSame_37 : decode cX9_setSame 37 = .ok (.aload_n 1, 1) := by decide +kernel
theorem dX9_setSame_38 : decode cX9_setSame 38 = .ok (.iload 4, 2) := by decide +kernel
theorem dX9_setSame_40 : decode cX9_setSame 40 = .ok (.iconst 1, 1) := by decide +kernel
theorem dX9_setSame_41 : decode cX9_setSame 41 = .ok (.bastore, 1) := by decide +kernel
theorem dX9_setSame_42 : decode cX9_setSame 42 = .ok (.aload_n 0, 1) := by decide +kernel
theorem dX9_setSame_43 : decode cX9_setSame 43 = .ok (.iload_n 2, 1) := by decide +kernel
theorem dX9_setSame_44 : decode cX9_setSame 44 = .ok (.invokevirtual 107, 3) := by decide +kernel
theorem dX9_setSame_47 : decode cX9_setSame 47 = .ok (.istore 7, 2) := by decide +kernel
theorem dX9_setSame_49 : decode cX9_setSame 49 = .ok (.iload_n 2, 1) := by decide +kernel
theorem dX9_setSame_50 : decode cX9_setSame 50 = .ok (.iload_n 3, 1) := by decide +kernel
theorem dX9_setSame_51 : decode cX9_setSame 51 = .ok (.invokestatic 118, 3) := by decide +kernel
theorem dX9_setSame_54 : decode cX9_setSame 54 = .ok (.istore 8, 2) := by decide +kernel
theorem dX9_setSame_56 : decode cX9_setSame 56 = .ok (.iload 7, 2) := by decide +kernel
theorem dX9_setSame_58 : decode cX9_setSame 58 = .ok (.ldc 97, 2) := by decide +kernel
theorem dX9_setSame_60 : decode cX9_setSame 60 = .ok (.if_icmp .ne 12, 3) := by decide +kernel
theorem dX9_setSame_63 : decode cX9_setSame 63 = .ok (.iload 8, 2) := by decide +kernel
theorem dX9_setSame_65 : decode cX9_setSame 65 = .ok (.iconst 1, 1) := by decide +kernel
theorem dX9_setSame_66 : decode cX9_setSame 66 = .ok (.if_icmp .ne 6, 3) := by decide +kernel
theorem dX9_setSame_69 : decode cX9_setSame 69 = .ok (.iload 6, 2) := by decide +kernel
theorem dX9_setSame_71 : decode cX9_setSame 71 = .ok (.ireturn, 1) := by decide +kernel
theorem dX9_setSame_72 : decode cX9_setSame 72 = .ok (.aload_n 0, 1) := by decide +kernel
theorem dX9_setSame_73 : decode cX9_setSame 73 = .ok (.iload 4, 2) := by decide +kernel
theorem dX9_setSame_75 : decode cX9_setSame 75 = .ok (.invokevirtual 98, 3) := by decide +kernel
theorem dX9_setSame_78 : decode cX9_setSame 78 = .ok (.istore 9, 2) := by decide +kernel
theorem dX9_setSame_80 : decode cX9_setSame 80 = .ok (.iload 5, 2) := by decide +kernel
theorem dX9_setSame_82 : decode cX9_setSame 82 = .ok (.istore 10, 2) := by decide +kernel
theorem dX9_setSame_84 : decode cX9_setSame 84 = .ok (.iload 10, 2) := by decide +kernel
theorem dX9_setSame_86 : decode cX9_setSame 86 = .ok (.aload_n 0, 1) := by decide +kernel
theorem dX9_setSame_87 : decode cX9_setSame 87 = .ok (.getfield 23, 3) := by decide +kernel
theorem dX9_setSame_90 : decode cX9_setSame 90 = .ok (.if_icmp .ge 63, 3) := by decide +kernel
theorem dX9_setSame_93 : decode cX9_setSame 93 = .ok (.iload 10, 2) := by decide +kernel
theorem dX9_setSame_95 : decode cX9_setSame 95 = .ok (.aload_n 1, 1) := by decide +kernel
theorem dX9_setSame_96 : decode cX9_setSame 96 = .ok (.arraylength, 1) := by decide +kernel
theorem dX9_setSame_97 : decode cX9_setSame 97 = .ok (.if_icmp .ge 56, 3) := by decide +kernel
theorem dX9_setSame_100 : decode cX9_setSame 100 = .ok (.iload 10, 2) := by decide +kernel
theorem dX9_setSame_102 : decode cX9_setSame 102 = .ok (.aload_n 0, 1) := by decide +kernel
theorem dX9_setSame_103 : decode cX9_setSame 103 = .ok (.getfield 9, 3) := by decide +kernel
theorem dX9_setSame_106 : decode cX9_setSame 106 = .ok (.arraylength, 1) := by decide +kernel
theorem dX9_setSame_107 : decode cX9_setSame 107 = .ok (.if_icmp .ge 46, 3) := by decide +kernel
theorem dX9_setSame_110 : decode cX9_setSame 110 = .ok (.aload_n 1, 1) := by decide +kernel
theorem dX9_setSame_111 : decode cX9_setSame 111 = .ok (.iload 10, 2) := by decide +kernel
theorem dX9_setSame_113 : decode cX9_setSame 113 = .ok (.baload, 1) := by decide +kernel
theorem dX9_setSame_114 : decode cX9_setSame 114 = .ok (.ifCond .ne 33, 3) := by decide +kernel
theorem dX9_setSame_117 : decode cX9_setSame 117 = .ok (.aload_n 0, 1) := by decide +kernel
theorem dX9_setSame_118 : decode cX9_setSame 118 = .ok (.getfield 9, 3) := by decide +kernel
theorem dX9_setSame_121 : decode cX9_setSame 121 = .ok (.iload 10, 2) := by decide +kernel
theorem dX9_setSame_123 : decode cX9_setSame 123 = .ok (.laload, 1) := by decide +kernel
theorem dX9_setSame_124 : decode cX9_setSame 124 = .ok (.l2i, 1) := by decide +kernel
theorem dX9_setSame_125 : decode cX9_setSame 125 = .ok (.iload 9, 2) := by decide +kernel
theorem dX9_setSame_127 : decode cX9_setSame 127 = .ok (.ixor, 1) := by decide +kernel
theorem dX9_setSame_128 : decode cX9_setSame 128 = .ok (.iload 7, 2) := by decide +kernel
theorem dX9_setSame_130 : decode cX9_setSame 130 = .ok (.iand, 1) := by decide +kernel
theorem dX9_setSame_131 : decode cX9_setSame 131 = .ok (.invokestatic 110, 3) := by decide +kernel
theorem dX9_setSame_134 : decode cX9_setSame 134 = .ok (.iload 8, 2) := by decide +kernel
theorem dX9_setSame_136 : decode cX9_setSame 136 = .ok (.if_icmp .ge 11, 3) := by decide +kernel
theorem dX9_setSame_139 : decode cX9_setSame 139 = .ok (.aload_n 1, 1) := by decide +kernel
theorem dX9_setSame_140 : decode cX9_setSame 140 = .ok (.iload 10, 2) := by decide +kernel
theorem dX9_setSame_142 : decode cX9_setSame 142 = .ok (.iconst 1, 1) := by decide +kernel
theorem dX9_setSame_143 : decode cX9_setSame 143 = .ok (.bastore, 1) := by decide +kernel
theorem dX9_setSame_144 : decode cX9_setSame 144 = .ok (.iinc 6 1, 3) := by decide +kernel
theorem dX9_setSame_147 : decode cX9_setSame 147 = .ok (.iinc 10 1, 3) := by decide +kernel
theorem dX9_setSame_150 : decode cX9_setSame 150 = .ok (.goto (-66), 3) := by decide +kernel
theorem dX9_setSame_153 : decode cX9_setSame 153 = .ok (.iload 6, 2) := by decide +kernel
theorem dX9_setSame_155 : decode cX9_setSame 155 = .ok (.ireturn, 1) := by decide +kernel
theorem dX9_bitsThatCount_0 : decode cX9_bitsThatCount 0 = .ok (.iload_n 1, 1) := by decide +kernel
theorem dX9_bitsThatCount_1 : decode cX9_bitsThatCount 1 = .ok (.iconst 1, 1) := by decide +kernel
theorem dX9_bitsThatCount_2 : decode cX9_bitsThatCount 2 = .ok (.if_icmp .ne 15, 3) := by decide +kernel
theorem dX9_bitsThatCount_5 : decode cX9_bitsThatCount 5 = .ok (.ldc 97, 2) := by decide +kernel
theorem dX9_bitsThatCount_7 : decode cX9_bitsThatCount 7 = .ok (.aload_n 0, 1) := by decide +kernel
theorem dX9_bitsThatCount_8 : decode cX9_bitsThatCount 8 = .ok (.getfield 49, 3) := by decide +kernel
theorem dX9_bitsThatCount_11 : decode cX9_bitsThatCount 11 = .ok (.iconst (-1), 1) := by decide +kernel
theorem dX9_bitsThatCount_12 : decode cX9_bitsThatCount 12 = .ok (.ixor, 1) := by decide +kernel
theorem dX9_bitsThatCount_13 : decode cX9_bitsThatCount 13 = .ok (.iand, 1) := by decide +kernel
theorem dX9_bitsThatCount_14 : decode cX9_bitsThatCount 14 = .ok (.goto 5, 3) := by decide +kernel
theorem dX9_bitsThatCount_17 : decode cX9_bitsThatCount 17 = .ok (.ldc 97, 2) := by decide +kernel
theorem dX9_bitsThatCount_19 : decode cX9_bitsThatCount 19 = .ok (.ireturn, 1) := by decide +kernel
theorem dX9_unlikeOnes_0 : decode cX9_unlikeOnes 0 = .ok (.iload_n 0, 1) := by decide +kernel
theorem dX9_unlikeOnes_1 : decode cX9_unlikeOnes 1 = .ok (.iconst 2, 1) := by decide +kernel
theorem dX9_unlikeOnes_2 : decode cX9_unlikeOnes 2 = .ok (.if_icmp .ne 7, 3) := by decide +kernel
theorem dX9_unlikeOnes_5 : decode cX9_unlikeOnes 5 = .ok (.iload_n 1, 1) := by decide +kernel
theorem dX9_unlikeOnes_6 : decode cX9_unlikeOnes 6 = .ok (.goto 4, 3) := by decide +kernel
theorem dX9_unlikeOnes_9 : decode cX9_unlikeOnes 9 = .ok (.iconst 1, 1) := by decide +kernel
theorem dX9_unlikeOnes_10 : decode cX9_unlikeOnes 10 = .ok (.ireturn, 1) := by decide +kernel
theorem dX9_unspendAll_0 : decode cX9_unspendAll 0 = .ok (.aload_n 0, 1) := by decide +kernel
theorem dX9_unspendAll_1 : decode cX9_unspendAll 1 = .ok (.aload_n 0, 1) := by decide +kernel
theorem dX9_unspendAll_2 : decode cX9_unspendAll 2 = .ok (.getfield 23, 3) := by decide +kernel
theorem dX9_unspendAll_5 : decode cX9_unspendAll 5 = .ok (.putfield 121, 3) := by decide +kernel
theorem dX9_unspendAll_8 : decode cX9_unspendAll 8 = .ok (.iconst 0, 1) := by decide +kernel
theorem dX9_unspendAll_9 : decode cX9_unspendAll 9 = .ok (.istore_n 1, 1) := by decide +kernel
theorem dX9_unspendAll_10 : decode cX9_unspendAll 10 = .ok (.iload_n 1, 1) := by decide +kernel
theorem dX9_unspendAll_11 : decode cX9_unspendAll 11 = .ok (.aload_n 0, 1) := by decide +kernel
theorem dX9_unspendAll_12 : decode cX9_unspendAll 12 = .ok (.getfield 15, 3) := by decide +kernel
theorem dX9_unspendAll_15 : decode cX9_unspendAll 15 = .ok (.arraylength, 1) := by decide +kernel
theorem dX9_unspendAll_16 : decode cX9_unspendAll 16 = .ok (.if_icmp .ge 16, 3) := by decide +kernel
theorem dX9_unspendAll_19 : decode cX9_unspendAll 19 = .ok (.aload_n 0, 1) := by decide +kernel
theorem dX9_unspendAll_20 : decode cX9_unspendAll 20 = .ok (.getfield 15, 3) := by decide +kernel
theorem dX9_unspendAll_23 : decode cX9_unspendAll 23 = .ok (.iload_n 1, 1) := by decide +kernel
theorem dX9_unspendAll_24 : decode cX9_unspendAll 24 = .ok (.iconst 0, 1) := by decide +kernel
theorem dX9_unspendAll_25 : decode cX9_unspendAll 25 = .ok (.bastore, 1) := by decide +kernel
theorem dX9_unspendAll_26 : decode cX9_unspendAll 26 = .ok (.iinc 1 1, 3) := by decide +kernel
theorem dX9_unspendAll_29 : decode cX9_unspendAll 29 = .ok (.goto (-19), 3) := by decide +kernel
theorem dX9_unspendAll_32 : decode cX9_unspendAll 32 = .ok (.return_, 1) := by decide +kernel
theorem dX9_spendLike_0 : decode cX9_spendLike 0 = .ok (.aload_n 0, 1) := by decide +kernel
theorem dX9_spendLike_1 : decode cX9_spendLike 1 = .ok (.dup, 1) := by decide +kernel
theorem dX9_spendLike_2 : decode cX9_spendLike 2 = .ok (.getfield 121, 3) := by decide +kernel
theorem dX9_spendLike_5 : decode cX9_spendLike 5 = .ok (.aload_n 0, 1) := by decide +kernel
theorem dX9_spendLike_6 : decode cX9_spendLike 6 = .ok (.aload_n 0, 1) := by decide +kernel
theorem dX9_spendLike_7 : decode cX9_spendLike 7 = .ok (.getfield 15, 3) := by decide +kernel
theorem dX9_spendLike_10 : decode cX9_spendLike 10 = .ok (.aload_n 0, 1) := by decide +kernel
theorem dX9_spendLike_11 : decode cX9_spendLike 11 = .ok (.getfield 19, 3) := by decide +kernel
theorem dX9_spendLike_14 : decode cX9_spendLike 14 = .ok (.getfield 104, 3) := by decide +kernel
theorem dX9_spendLike_17 : decode cX9_spendLike 17 = .ok (.aload_n 0, 1) := by decide +kernel
theorem dX9_spendLike_18 : decode cX9_spendLike 18 = .ok (.getfield 19, 3) := by decide +kernel
theorem dX9_spendLike_21 : decode cX9_spendLike 21 = .ok (.getfield 115, 3) := by decide +kernel
theorem dX9_spendLike_24 : decode cX9_spendLike 24 = .ok (.iload_n 1, 1) := by decide +kernel
theorem dX9_spendLike_25 : decode cX9_spendLike 25 = .ok (.iconst 0, 1) := by decide +kernel
theorem dX9_spendLike_26 : decode cX9_spendLike 26 = .ok (.invokevirtual 124, 3) := by decide +kernel
theorem dX9_spendLike_29 : decode cX9_spendLike 29 = .ok (.isub, 1) := by decide +kernel
theorem dX9_spendLike_30 : decode cX9_spendLike 30 = .ok (.putfield 121, 3) := by decide +kernel
theorem dX9_spendLike_33 : decode cX9_spendLike 33 = .ok (.return_, 1) := by decide +kernel
theorem dX9_cheapestShared_0 : decode cX9_cheapestShared 0 = .ok (.iconst (-1), 1) := by decide +kernel
theorem dX9_cheapestShared_1 : decode cX9_cheapestShared 1 = .ok (.istore_n 2, 1) := by decide +kernel
theorem dX9_cheapestShared_2 : decode cX9_cheapestShared 2 = .ok (.iconst 0, 1) := by decide +kernel
theorem dX9_cheapestShared_3 : decode cX9_cheapestShared 3 = .ok (.istore_n 3, 1) := by decide +kernel
theorem dX9_cheapestShared_4 : decode cX9_cheapestShared 4 = .ok (.iconst 0, 1) := by decide +kernel
theorem dX9_cheapestShared_5 : decode cX9_cheapestShared 5 = .ok (.istore 4, 2) := by decide +kernel
theorem dX9_cheapestShared_7 : decode cX9_cheapestShared 7 = .ok (.iload 4, 2) := by decide +kernel
theorem dX9_cheapestShared_9 : decode cX9_cheapestShared 9 = .ok (.aload_n 0, 1) := by decide +kernel
theorem dX9_cheapestShared_10 : decode cX9_cheapestShared 10 = .ok (.getfield 23, 3) := by decide +kernel
theorem dX9_cheapestShared_13 : decode cX9_cheapestShared 13 = .ok (.if_icmp .ge 98, 3) := by decide +kernel
theorem dX9_cheapestShared_16 : decode cX9_cheapestShared 16 = .ok (.aload_n 0, 1) := by decide +kernel
theorem dX9_cheapestShared_17 : decode cX9_cheapestShared 17 = .ok (.iload 4, 2) := by decide +kernel
theorem dX9_cheapestShared_19 : decode cX9_cheapestShared 19 = .ok (.invokevirtual 101, 3) := by decide +kernel
theorem dX9_cheapestShared_22 : decode cX9_cheapestShared 22 = .ok (.ifCond .eq 6, 3) := by decide +kernel
theorem dX9_cheapestShared_25 : decode cX9_cheapestShared 25 = .ok (.goto 80, 3) := by decide +kernel
theorem dX9_cheapestShared_28 : decode cX9_cheapestShared 28 = .ok (.aload_n 0, 1) := by decide +kernel
theorem dX9_cheapestShared_29 : decode cX9_cheapestShared 29 = .ok (.iload 4, 2) := by decide +kernel
theorem dX9_cheapestShared_31 : decode cX9_cheapestShared 31 = .ok (.invokevirtual 98, 3) := by decide +kernel
theorem dX9_cheapestShared_34 : decode cX9_cheapestShared 34 = .ok (.istore 5, 2) := by decide +kernel
theorem dX9_cheapestShared_36 : decode cX9_cheapestShared 36 = .ok (.aload_n 0, 1) := by decide +kernel
theorem dX9_cheapestShared_37 : decode cX9_cheapestShared 37 = .ok (.getfield 19, 3) := by decide +kernel
theorem dX9_cheapestShared_40 : decode cX9_cheapestShared 40 = .ok (.aload_n 1, 1) := by decide +kernel
theorem dX9_cheapestShared_41 : decode cX9_cheapestShared 41 = .ok (.getfield 19, 3) := by decide +kernel
theorem dX9_cheapestShared_44 : decode cX9_cheapestShared 44 = .ok (.iload 5, 2) := by decide +kernel
theorem dX9_cheapestShared_46 : decode cX9_cheapestShared 46 = .ok (.invokevirtual 79, 3) := by decide +kernel
theorem dX9_cheapestShared_49 : decode cX9_cheapestShared 49 = .ok (.istore 6, 2) := by decide +kernel
theorem dX9_cheapestShared_51 : decode cX9_cheapestShared 51 = .ok (.iload_n 2, 1) := by decide +kernel
theorem dX9_cheapestShared_52 : decode cX9_cheapestShared 52 = .ok (.iconst (-1), 1) := by decide +kernel
theorem dX9_cheapestShared_53 : decode cX9_cheapestShared 53 = .ok (.if_icmp .eq 21, 3) := by decide +kernel
theorem dX9_cheapestShared_56 : decode cX9_cheapestShared 56 = .ok (.iload 6, 2) := by decide +kernel
theorem dX9_cheapestShared_58 : decode cX9_cheapestShared 58 = .ok (.iload_n 3, 1) := by decide +kernel
theorem dX9_cheapestShared_59 : decode cX9_cheapestShared 59 = .ok (.if_icmp .lt 15, 3) := by decide +kernel
theorem dX9_cheapestShared_62 : decode cX9_cheapestShared 62 = .ok (.iload 6, 2) := by decide +kernel
theorem dX9_cheapestShared_64 : decode cX9_cheapestShared 64 = .ok (.iload_n 3, 1) := by decide +kernel
theorem dX9_cheapestShared_65 : decode cX9_cheapestShared 65 = .ok (.if_icmp .ne 13, 3) := by decide +kernel
theorem dX9_cheapestShared_68 : decode cX9_cheapestShared 68 = .ok (.iload 5, 2) := by decide +kernel
theorem dX9_cheapestShared_70 : decode cX9_cheapestShared 70 = .ok (.iload_n 2, 1) := by decide +kernel
theorem dX9_cheapestShared_71 : decode cX9_cheapestShared 71 = .ok (.if_icmp .ge 7, 3) := by decide +kernel
theorem dX9_cheapestShared_74 : decode cX9_cheapestShared 74 = .ok (.iconst 1, 1) := by decide +kernel
theorem dX9_cheapestShared_75 : decode cX9_cheapestShared 75 = .ok (.goto 4, 3) := by decide +kernel
theorem dX9_cheapestShared_78 : decode cX9_cheapestShared 78 = .ok (.iconst 0, 1) := by decide +kernel
theorem dX9_cheapestShared_79 : decode cX9_cheapestShared 79 = .ok (.istore 7, 2) := by decide +kernel
theorem dX9_cheapestShared_81 : decode cX9_cheapestShared 81 = .ok (.iload 7, 2) := by decide +kernel
theorem dX9_cheapestShared_83 : decode cX9_cheapestShared 83 = .ok (.ifCond .eq 22, 3) := by decide +kernel
theorem dX9_cheapestShared_86 : decode cX9_cheapestShared 86 = .ok (.aload_n 1, 1) := by decide +kernel
theorem dX9_cheapestShared_87 : decode cX9_cheapestShared 87 = .ok (.aload_n 1, 1) := by decide +kernel
theorem dX9_cheapestShared_88 : decode cX9_cheapestShared 88 = .ok (.iload 5, 2) := by decide +kernel
theorem dX9_cheapestShared_90 : decode cX9_cheapestShared 90 = .ok (.invokevirtual 128, 3) := by decide +kernel
theorem dX9_cheapestShared_93 : decode cX9_cheapestShared 93 = .ok (.invokevirtual 101, 3) := by decide +kernel
theorem dX9_cheapestShared_96 : decode cX9_cheapestShared 96 = .ok (.ifCond .ne 9, 3) := by decide +kernel
theorem dX9_cheapestShared_99 : decode cX9_cheapestShared 99 = .ok (.iload 5, 2) := by decide +kernel
theorem dX9_cheapestShared_101 : decode cX9_cheapestShared 101 = .ok (.istore_n 2, 1) := by decide +kernel
theorem dX9_cheapestShared_102 : decode cX9_cheapestShared 102 = .ok (.iload 6, 2) := by decide +kernel
theorem dX9_cheapestShared_104 : decode cX9_cheapestShared 104 = .ok (.istore_n 3, 1) := by decide +kernel
theorem dX9_cheapestShared_105 : decode cX9_cheapestShared 105 = .ok (.iinc 4 1, 3) := by decide +kernel
theorem dX9_cheapestShared_108 : decode cX9_cheapestShared 108 = .ok (.goto (-101), 3) := by decide +kernel
theorem dX9_cheapestShared_111 : decode cX9_cheapestShared 111 = .ok (.iload_n 2, 1) := by decide +kernel
theorem dX9_cheapestShared_112 : decode cX9_cheapestShared 112 = .ok (.ireturn, 1) := by decide +kernel
theorem dX10_init_0 : decode cX10_init 0 = .ok (.aload_n 0, 1) := by decide +kernel
theorem dX10_init_1 : decode cX10_init 1 = .ok (.invokespecial 3, 3) := by decide +kernel
theorem dX10_init_4 : decode cX10_init 4 = .ok (.aload_n 0, 1) := by decide +kernel
theorem dX10_init_5 : decode cX10_init 5 = .ok (.new 9, 3) := by decide +kernel
theorem dX10_init_8 : decode cX10_init 8 = .ok (.dup, 1) := by decide +kernel
theorem dX10_init_9 : decode cX10_init 9 = .ok (.invokespecial 11, 3) := by decide +kernel
theorem dX10_init_12 : decode cX10_init 12 = .ok (.putfield 12, 3) := by decide +kernel
theorem dX10_init_15 : decode cX10_init 15 = .ok (.aload_n 0, 1) := by decide +kernel
theorem dX10_init_16 : decode cX10_init 16 = .ok (.new 16, 3) := by decide +kernel
theorem dX10_init_19 : decode cX10_init 19 = .ok (.dup, 1) := by decide +kernel
theorem dX10_init_20 : decode cX10_init 20 = .ok (.aload_n 0, 1) := by decide +kernel
theorem dX10_init_21 : decode cX10_init 21 = .ok (.getfield 12, 3) := by decide +kernel
theorem dX10_init_24 : decode cX10_init 24 = .ok (.invokespecial 18, 3) := by decide +kernel
theorem dX10_init_27 : decode cX10_init 27 = .ok (.putfield 21, 3) := by decide +kernel
theorem dX10_init_30 : decode cX10_init 30 = .ok (.aload_n 0, 1) := by decide +kernel
theorem dX10_init_31 : decode cX10_init 31 = .ok (.bipush 6, 2) := by decide +kernel
theorem dX10_init_33 : decode cX10_init 33 = .ok (.anewarray 25, 3) := by decide +kernel
theorem dX10_init_36 : decode cX10_init 36 = .ok (.putfield 27, 3) := by decide +kernel
theorem dX10_init_39 : decode cX10_init 39 = .ok (.aload_n 0, 1) := by decide +kernel
theorem dX10_init_40 : decode cX10_init 40 = .ok (.bipush 6, 2) := by decide +kernel
theorem dX10_init_42 : decode cX10_init 42 = .ok (.anewarray 31, 3) := by decide +kernel
theorem dX10_init_45 : decode cX10_init 45 = .ok (.putfield 33, 3) := by decide +kernel
theorem dX10_init_48 : decode cX10_init 48 = .ok (.aload_n 0, 1) := by decide +kernel
theorem dX10_init_49 : decode cX10_init 49 = .ok (.new 37, 3) := by decide +kernel
theorem dX10_init_52 : decode cX10_init 52 = .ok (.dup, 1) := by decide +kernel
theorem dX10_init_53 : decode cX10_init 53 = .ok (.invokespecial 39, 3) := by decide +kernel
theorem dX10_init_56 : decode cX10_init 56 = .ok (.putfield 40, 3) := by decide +kernel
theorem dX10_init_59 : decode cX10_init 59 = .ok (.aload_n 0, 1) := by decide +kernel
theorem dX10_init_60 : decode cX10_init 60 = .ok (.new 37, 3) := by decide +kernel
theorem dX10_init_63 : decode cX10_init 63 = .ok (.dup, 1) := by decide +kernel
theorem dX10_init_64 : decode cX10_init 64 = .ok (.invokespecial 39, 3) := by decide +kernel
theorem dX10_init_67 : decode cX10_init 67 = .ok (.putfield 44, 3) := by decide +kernel
theorem dX10_init_70 : decode cX10_init 70 = .ok (.aload_n 0, 1) := by decide +kernel
theorem dX10_init_71 : decode cX10_init 71 = .ok (.new 47, 3) := by decide +kernel
theorem dX10_init_74 : decode cX10_init 74 = .ok (.dup, 1) := by decide +kernel
theorem dX10_init_75 : decode cX10_init 75 = .ok (.invokespecial 49, 3) := by decide +kernel
theorem dX10_init_78 : decode cX10_init 78 = .ok (.putfield 50, 3) := by decide +kernel
theorem dX10_init_81 : decode cX10_init 81 = .ok (.aload_n 0, 1) := by decide +kernel
theorem dX10_init_82 : decode cX10_init 82 = .ok (.new 54, 3) := by decide +kernel
theorem dX10_init_85 : decode cX10_init 85 = .ok (.dup, 1) := by decide +kernel
theorem dX10_init_86 : decode cX10_init 86 = .ok (.invokespecial 56, 3) := by decide +kernel
theorem dX10_init_89 : decode cX10_init 89 = .ok (.putfield 57, 3) := by decide +kernel
theorem dX10_init_92 : decode cX10_init 92 = .ok (.aload_n 0, 1) := by decide +kernel
theorem dX10_init_93 : decode cX10_init 93 = .ok (.new 61, 3) := by decide +kernel
theorem dX10_init_96 : decode cX10_init 96 = .ok (.dup, 1) := by decide +kernel
theorem dX10_init_97 : decode cX10_init 97 = .ok (.invokespecial 63, 3) := by decide +kernel
theorem dX10_init_100 : decode cX10_init 100 = .ok (.putfield 64, 3) := by decide +kernel
theorem dX10_init_103 : decode cX10_init 103 = .ok (.aload_n 0, 1) := by decide +kernel
theorem dX10_init_104 : decode cX10_init 104 = .ok (.new 68, 3) := by decide +kernel
theorem dX10_init_107 : decode cX10_init 107 = .ok (.dup, 1) := by decide +kernel
theorem dX10_init_108 : decode cX10_init 108 = .ok (.invokespecial 70, 3) := by decide +kernel
theorem dX10_init_111 : decode cX10_init 111 = .ok (.putfield 71, 3) := by decide +kernel
theorem dX10_init_114 : decode cX10_init 114 = .ok (.aload_n 0, 1) := by decide +kernel
theorem dX10_init_115 : decode cX10_init 115 = .ok (.new 75, 3) := by decide +kernel
theorem dX10_init_118 : decode cX10_init 118 = .ok (.dup, 1) := by decide +kernel
theorem dX10_init_119 : decode cX10_init 119 = .ok (.invokespecial 77, 3) := by decide +kernel
theorem dX10_init_122 : decode cX10_init 122 = .ok (.putfield 78, 3) := by decide +kernel
theorem dX10_init_125 : decode cX10_init 125 = .ok (.aload_n 0, 1) := by decide +kernel
theorem dX10_init_126 : decode cX10_init 126 = .ok (.sipush 1458, 3) := by decide +kernel
theorem dX10_init_129 : decode cX10_init 129 = .ok (.newarray .boolean, 2) := by decide +kernel
theorem dX10_init_131 : decode cX10_init 131 = .ok (.putfield 82, 3) := by decide +kernel
theorem dX10_init_134 : decode cX10_init 134 = .ok (.iconst 0, 1) := by decide +kernel
theorem dX10_init_135 : decode cX10_init 135 = .ok (.istore_n 1, 1) := by decide +kernel
theorem dX10_init_136 : decode cX10_init 136 = .ok (.iload_n 1, 1) := by decide +kernel
theorem dX10_init_137 : decode cX10_init 137 = .ok (.bipush 6, 2) := by decide +kernel
theorem dX10_init_139 : decode cX10_init 139 = .ok (.if_icmp .ge 42, 3) := by decide +kernel
theorem dX10_init_142 : decode cX10_init 142 = .ok (.aload_n 0, 1) := by decide +kernel
theorem dX10_init_143 : decode cX10_init 143 = .ok (.getfield 27, 3) := by decide +kernel
theorem dX10_init_146 : decode cX10_init 146 = .ok (.iload_n 1, 1) := by decide +kernel
theorem dX10_init_147 : decode cX10_init 147 = .ok (.new 25, 3) := by decide +kernel
theorem dX10_init_150 : decode cX10_init 150 = .ok (.dup, 1) := by decide +kernel
theorem dX10_init_151 : decode cX10_init 151 = .ok (.invokespecial 86, 3) := by decide +kernel
theorem dX10_init_154 : decode cX10_init 154 = .ok (.aastore, 1) := by decide +kernel
theorem dX10_init_155 : decode cX10_init 155 = .ok (.aload_n 0, 1) := by decide +kernel
theorem dX10_init_156 : decode cX10_init 156 = .ok (.getfield 33, 3) := by decide +kernel
theorem dX10_init_159 : decode cX10_init 159 = .ok (.iload_n 1, 1) := by decide +kernel
theorem dX10_init_160 : decode cX10_init 160 = .ok (.new 31, 3) := by decide +kernel
theorem dX10_init_163 : decode cX10_init 163 = .ok (.dup, 1) := by decide +kernel
theorem dX10_init_164 : decode cX10_init 164 = .ok (.new 25, 3) := by decide +kernel
theorem dX10_init_167 : decode cX10_init 167 = .ok (.dup, 1) := by decide +kernel
theorem dX10_init_168 : decode cX10_init 168 = .ok (.invokespecial 86, 3) := by decide +kernel
theorem dX10_init_171 : decode cX10_init 171 = .ok (.invokespecial 87, 3) := by decide +kernel
theorem dX10_init_174 : decode cX10_init 174 = .ok (.aastore, 1) := by decide +kernel
theorem dX10_init_175 : decode cX10_init 175 = .ok (.iinc 1 1, 3) := by decide +kernel
theorem dX10_init_178 : decode cX10_init 178 = .ok (.goto (-42), 3) := by decide +kernel
theorem dX10_init_181 : decode cX10_init 181 = .ok (.aload_n 0, 1) := by decide +kernel
theorem dX10_init_182 : decode cX10_init 182 = .ok (.iconst (-1), 1) := by decide +kernel
theorem dX10_init_183 : decode cX10_init 183 = .ok (.putfield 90, 3) := by decide +kernel
theorem dX10_init_186 : decode cX10_init 186 = .ok (.return_, 1) := by decide +kernel
theorem dX10_feed_0 : decode cX10_feed 0 = .ok (.aload_n 0, 1) := by decide +kernel
theorem dX10_feed_1 : decode cX10_feed 1 = .ok (.getfield 12, 3) := by decide +kernel
theorem dX10_feed_4 : decode cX10_feed 4 = .ok (.getfield 94, 3) := by decide +kernel
theorem dX10_feed_7 : decode cX10_feed 7 = .ok (.bipush 20, 2) := by decide +kernel
theorem dX10_feed_9 : decode cX10_feed 9 = .ok (.iadd, 1) := by decide +kernel
theorem dX10_feed_10 : decode cX10_feed 10 = .ok (.sipush 700, 3) := by decide +kernel
theorem dX10_feed_13 : decode cX10_feed 13 = .ok (.if_icmp .le 5, 3) := by decide +kernel
theorem dX10_feed_16 : decode cX10_feed 16 = .ok (.iconst (-1), 1) := by decide +kernel
theorem dX10_feed_17 : decode cX10_feed 17 = .ok (.ireturn, 1) := by decide +kernel
theorem dX10_feed_18 : decode cX10_feed 18 = .ok (.aload_n 0, 1) := by decide +kernel
theorem dX10_feed_19 : decode cX10_feed 19 = .ok (.getfield 12, 3) := by decide +kernel
theorem dX10_feed_22 : decode cX10_feed 22 = .ok (.iload_n 1, 1) := by decide +kernel
theorem dX10_feed_23 : decode cX10_feed 23 = .ok (.invokevirtual 97, 3) := by decide +kernel
theorem dX10_feed_26 : decode cX10_feed 26 = .ok (.aload_n 0, 1) := by decide +kernel
theorem dX10_feed_27 : decode cX10_feed 27 = .ok (.getfield 12, 3) := by decide +kernel
theorem dX10_feed_30 : decode cX10_feed 30 = .ok (.iload_n 2, 1) := by decide +kernel
theorem dX10_feed_31 : decode cX10_feed 31 = .ok (.invokevirtual 97, 3) := by decide +kernel
theorem dX10_feed_34 : decode cX10_feed 34 = .ok (.aload_n 0, 1) := by decide +kernel
theorem dX10_feed_35 : decode cX10_feed 35 = .ok (.getfield 12, 3) := by decide +kernel
theorem dX10_feed_38 : decode cX10_feed 38 = .ok (.iload_n 3, 1) := by decide +kernel
theorem dX10_feed_39 : decode cX10_feed 39 = .ok (.invokevirtual 97, 3) := by decide +kernel
theorem dX10_feed_42 : decode cX10_feed 42 = .ok (.aload_n 0, 1) := by decide +kernel
theorem dX10_feed_43 : decode cX10_feed 43 = .ok (.getfield 12, 3) := by decide +kernel
theorem dX10_feed_46 : decode cX10_feed 46 = .ok (.iload 4, 2) := by decide +kernel
theorem dX10_feed_48 : decode cX10_feed 48 = .ok (.invokevirtual 97, 3) := by decide +kernel
theorem dX10_feed_51 : decode cX10_feed 51 = .ok (.aload_n 0, 1) := by decide +kernel
theorem dX10_feed_52 : decode cX10_feed 52 = .ok (.getfield 12, 3) := by decide +kernel
theorem dX10_feed_55 : decode cX10_feed 55 = .ok (.iload 5, 2) := by decide +kernel
theorem dX10_feed_57 : decode cX10_feed 57 = .ok (.invokevirtual 97, 3) := by decide +kernel
theorem dX10_feed_60 : decode cX10_feed 60 = .ok (.aload_n 0, 1) := by decide +kernel
theorem dX10_feed_61 : decode cX10_feed 61 = .ok (.getfield 12, 3) := by decide +kernel
theorem dX10_feed_64 : decode cX10_feed 64 = .ok (.getfield 94, 3) := by decide +kernel
theorem dX10_feed_67 : decode cX10_feed 67 = .ok (.ireturn, 1) := by decide +kernel
theorem dX10_town_0 : decode cX10_town 0 = .ok (.iload_n 1, 1) := by decide +kernel
theorem dX10_town_1 : decode cX10_town 1 = .ok (.ifCond .lt 14, 3) := by decide +kernel
theorem dX10_town_4 : decode cX10_town 4 = .ok (.iload_n 1, 1) := by decide +kernel
theorem dX10_town_5 : decode cX10_town 5 = .ok (.aload_n 0, 1) := by decide +kernel
theorem dX10_town_6 : decode cX10_town 6 = .ok (.getfield 12, 3) := by decide +kernel
theorem dX10_town_9 : decode cX10_town 9 = .ok (.getfield 94, 3) := by decide +kernel
theorem dX10_town_12 : decode cX10_town 12 = .ok (.if_icmp .le 13, 3) := by decide +kernel
theorem dX10_town_15 : decode cX10_town 15 = .ok (.new 101, 3) := by decide +kernel
theorem dX10_town_18 : decode cX10_town 18 = .ok (.dup, 1) := by decide +kernel
theorem dX10_town_19 : decode cX10_town 19 = .ok (.ldc 103, 2) := by decide +kernel
theorem dX10_town_21 : decode cX10_town 21 = .ok (.invokespecial 105, 3) := by decide +kernel
theorem dX10_town_24 : decode cX10_town 24 = .ok (.athrow, 1) := by decide +kernel
theorem dX10_town_25 : decode cX10_town 25 = .ok (.aload_n 0, 1) := by decide +kernel
theorem dX10_town_26 : decode cX10_town 26 = .ok (.getfield 21, 3) := by decide +kernel
theorem dX10_town_29 : decode cX10_town 29 = .ok (.iload_n 1, 1) := by decide +kernel
theorem dX10_town_30 : decode cX10_town 30 = .ok (.aload_n 0, 1) := by decide +kernel
theorem dX10_town_31 : decode cX10_town 31 = .ok (.getfield 27, 3) := by decide +kernel
theorem dX10_town_34 : decode cX10_town 34 = .ok (.invokevirtual 108, 3) := by decide +kernel
theorem dX10_town_37 : decode cX10_town 37 = .ok (.istore_n 2, 1) := by decide +kernel
theorem dX10_town_38 : decode cX10_town 38 = .ok (.aload_n 0, 1) := by decide +kernel
theorem dX10_town_39 : decode cX10_town 39 = .ok (.getfield 12, 3) := by decide +kernel
theorem dX10_town_42 : decode cX10_town 42 = .ok (.iconst 0, 1) := by decide +kernel
theorem dX10_town_43 : decode cX10_town 43 = .ok (.putfield 94, 3) := by decide +kernel
theorem dX10_town_46 : decode cX10_town 46 = .ok (.iload_n 2, 1) := by decide +kernel
theorem dX10_town_47 : decode cX10_town 47 = .ok (.ifCond .eq 24, 3) := by decide +kernel
theorem dX10_town_50 : decode cX10_town 50 = .ok (.aload_n 0, 1) := by decide +kernel
theorem dX10_town_51 : decode cX10_town 51 = .ok (.aload_n 0, 1) := by decide +kernel
theorem dX10_town_52 : decode cX10_town 52 = .ok (.getfield 21, 3) := by decide +kernel
theorem dX10_town_55 : decode cX10_town 55 = .ok (.getfield 112, 3) := by decide +kernel
theorem dX10_town_58 : decode cX10_town 58 = .ok (.putfield 90, 3) := by decide +kernel
theorem dX10_town_61 : decode cX10_town 61 = .ok (.aload_n 0, 1) := by decide +kernel
theorem dX10_town_62 : decode cX10_town 62 = .ok (.getfield 40, 3) := by decide +kernel
theorem dX10_town_65 : decode cX10_town 65 = .ok (.iconst 0, 1) := by decide +kernel
theorem dX10_town_66 : decode cX10_town 66 = .ok (.invokevirtual 115, 3) := by decide +kernel
theorem dX10_town_69 : decode cX10_town 69 = .ok (.iload_n 2, 1) := by decide +kernel
theorem dX10_town_70 : decode cX10_town 70 = .ok (.ireturn, 1) := by decide +kernel
theorem dX10_town_71 : decode cX10_town 71 = .ok (.aload_n 0, 1) := by decide +kernel
theorem dX10_town_72 : decode cX10_town 72 = .ok (.iconst (-1), 1) := by decide +kernel
theorem dX10_town_73 : decode cX10_town 73 = .ok (.putfield 90, 3) := by decide +kernel
theorem dX10_town_76 : decode cX10_town 76 = .ok (.aload_n 0, 1) := by decide +kernel
theorem dX10_town_77 : decode cX10_town 77 = .ok (.aload_n 0, 1) := by decide +kernel
theorem dX10_town_78 : decode cX10_town 78 = .ok (.getfield 21, 3) := by decide +kernel
theorem dX10_town_81 : decode cX10_town 81 = .ok (.getfield 118, 3) := by decide +kernel
theorem dX10_town_84 : decode cX10_town 84 = .ok (.invokevirtual 120, 3) := by decide +kernel
theorem dX10_town_87 : decode cX10_town 87 = .ok (.iconst 0, 1) := by decide +kernel
theorem dX10_town_88 : decode cX10_town 88 = .ok (.ireturn, 1) := by decide +kernel
theorem dX10_settleTown_0 : decode cX10_settleTown 0 = .ok (.aload_n 0, 1) := by decide +kernel
theorem dX10_settleTown_1 : decode cX10_settleTown 1 = .ok (.iload_n 1, 1) := by decide +kernel
theorem dX10_settleTown_2 : decode cX10_settleTown 2 = .ok (.bipush 6, 2) := by decide +kernel
theorem dX10_settleTown_4 : decode cX10_settleTown 4 = .ok (.invokestatic 123, 3) := by decide +kernel
theorem dX10_settleTown_7 : decode cX10_settleTown 7 = .ok (.putfield 129, 3) := by decide +kernel
theorem dX10_settleTown_10 : decode cX10_settleTown 10 = .ok (.iconst 0, 1) := by decide +kernel
theorem dX10_settleTown_11 : decode cX10_settleTown 11 = .ok (.istore_n 2, 1) := by decide +kernel
theorem dX10_settleTown_12 : decode cX10_settleTown 12 = .ok (.iload_n 2, 1) := by decide +kernel
theorem dX10_settleTown_13 : decode cX10_settleTown 13 = .ok (.aload_n 0, 1) := by decide +kernel
theorem dX10_settleTown_14 : decode cX10_settleTown 14 = .ok (.getfield 129, 3) := by decide +kernel
theorem dX10_settleTown_17 : decode cX10_settleTown 17 = .ok (.if_icmp .ge 50, 3) := by decide +kernel
theorem dX10_settleTown_20 : decode cX10_settleTown 20 = .ok (.aload_n 0, 1) := by decide +kernel
theorem dX10_settleTown_21 : decode cX10_settleTown 21 = .ok (.getfield 33, 3) := by decide +kernel
theorem dX10_settleTown_24 : decode cX10_settleTown 24 = .ok (.iload_n 2, 1) := by decide +kernel
theorem dX10_settleTown_25 : decode cX10_settleTown 25 = .ok (.aaload, 1) := by decide +kernel
theorem dX10_settleTown_26 : decode cX10_settleTown 26 = .ok (.getfield 132, 3) := by decide +kernel
theorem dX10_settleTown_29 : decode cX10_settleTown 29 = .ok (.astore_n 3, 1) := by decide +kernel
theorem dX10_settleTown_30 : decode cX10_settleTown 30 = .ok (.aload_n 0, 1) := by decide +kernel
theorem dX10_settleTown_31 : decode cX10_settleTown 31 = .ok (.getfield 33, 3) := by decide +kernel
theorem dX10_settleTown_34 : decode cX10_settleTown 34 = .ok (.iload_n 2, 1) := by decide +kernel
theorem dX10_settleTown_35 : decode cX10_settleTown 35 = .ok (.aaload, 1) := by decide +kernel
theorem dX10_settleTown_36 : decode cX10_settleTown 36 = .ok (.aload_n 0, 1) := by decide +kernel
theorem dX10_settleTown_37 : decode cX10_settleTown 37 = .ok (.getfield 27, 3) := by decide +kernel
theorem dX10_settleTown_40 : decode cX10_settleTown 40 = .ok (.iload_n 2, 1) := by decide +kernel
theorem dX10_settleTown_41 : decode cX10_settleTown 41 = .ok (.aaload, 1) := by decide +kernel
theorem dX10_settleTown_42 : decode cX10_settleTown 42 = .ok (.putfield 132, 3) := by decide +kernel
theorem dX10_settleTown_45 : decode cX10_settleTown 45 = .ok (.aload_n 0, 1) := by decide +kernel
theorem dX10_settleTown_46 : decode cX10_settleTown 46 = .ok (.getfield 27, 3) := by decide +kernel
theorem dX10_settleTown_49 : decode cX10_settleTown 49 = .ok (.iload_n 2, 1) := by decide +kernel
theorem dX10_settleTown_50 : decode cX10_settleTown 50 = .ok (.aload_n 3, 1) := by decide +kernel
theorem dX10_settleTown_51 : decode cX10_settleTown 51 = .ok (.aastore, 1) := by decide +kernel
theorem dX10_settleTown_52 : decode cX10_settleTown 52 = .ok (.aload_n 0, 1) := by decide +kernel
theorem dX10_settleTown_53 : decode cX10_settleTown 53 = .ok (.getfield 33, 3) := by decide +kernel
theorem dX10_settleTown_56 : decode cX10_settleTown 56 = .ok (.iload_n 2, 1) := by decide +kernel
theorem dX10_settleTown_57 : decode cX10_settleTown 57 = .ok (.aaload, 1) := by decide +kernel
theorem dX10_settleTown_58 : decode cX10_settleTown 58 = .ok (.invokevirtual 136, 3) := by decide +kernel
theorem dX10_settleTown_61 : decode cX10_settleTown 61 = .ok (.iinc 2 1, 3) := by decide +kernel
theorem dX10_settleTown_64 : decode cX10_settleTown 64 = .ok (.goto (-52), 3) := by decide +kernel
theorem dX10_settleTown_67 : decode cX10_settleTown 67 = .ok (.aload_n 0, 1) := by decide +kernel
theorem dX10_settleTown_68 : decode cX10_settleTown 68 = .ok (.getfield 40, 3) := by decide +kernel
theorem dX10_settleTown_71 : decode cX10_settleTown 71 = .ok (.invokevirtual 139, 3) := by decide +kernel
theorem dX10_settleTown_74 : decode cX10_settleTown 74 = .ok (.aload_n 0, 1) := by decide +kernel
theorem dX10_settleTown_75 : decode cX10_settleTown 75 = .ok (.iconst 0, 1) := by decide +kernel
theorem dX10_settleTown_76 : decode cX10_settleTown 76 = .ok (.putfield 142, 3) := by decide +kernel
theorem dX10_settleTown_79 : decode cX10_settleTown 79 = .ok (.return_, 1) := by decide +kernel
theorem dX10_fault_0 : decode cX10_fault 0 = .ok (.aload_n 0, 1) := by decide +kernel
theorem dX10_fault_1 : decode cX10_fault 1 = .ok (.getfield 90, 3) := by decide +kernel
theorem dX10_fault_4 : decode cX10_fault 4 = .ok (.ireturn, 1) := by decide +kernel
theorem dX10_count_0 : decode cX10_count 0 = .ok (.iload_n 1, 1) := by decide +kernel
theorem dX10_count_1 : decode cX10_count 1 = .ok (.tableswitch 75 0 6 #[43, 48, 56, 64, 64, 64, 64], 43) := by decide +kernel
theorem dX10_count_44 : decode cX10_count 44 = .ok (.aload_n 0, 1) := by decide +kernel
theorem dX10_count_45 : decode cX10_count 45 = .ok (.getfield 129, 3) := by decide +kernel
theorem dX10_count_48 : decode cX10_count 48 = .ok (.ireturn, 1) := by decide +kernel
theorem dX10_count_49 : decode cX10_count 49 = .ok (.aload_n 0, 1) := by decide +kernel
theorem dX10_count_50 : decode cX10_count 50 = .ok (.getfield 12, 3) := by decide +kernel
theorem dX10_count_53 : decode cX10_count 53 = .ok (.getfield 94, 3) := by decide +kernel
theorem dX10_count_56 : decode cX10_count 56 = .ok (.ireturn, 1) := by decide +kernel
theorem dX10_count_57 : decode cX10_count 57 = .ok (.aload_n 0, 1) := by decide +kernel
theorem dX10_count_58 : decode cX10_count 58 = .ok (.getfield 40, 3) := by decide +kernel
theorem dX10_count_61 : decode cX10_count 61 = .ok (.getfield 146, 3) := by decide +kernel
theorem dX10_count_64 : decode cX10_count 64 = .ok (.ireturn, 1) := by decide +kernel
theorem dX10_count_65 : decode cX10_count 65 = .ok (.aload_n 0, 1) := by decide +kernel
theorem dX10_count_66 : decode cX10_count 66 = .ok (.getfield 40, 3) := by decide +kernel
theorem dX10_count_69 : decode cX10_count 69 = .ok (.iload_n 1, 1) := by decide +kernel
theorem dX10_count_70 : decode cX10_count 70 = .ok (.iconst 3, 1) := by decide +kernel
theorem dX10_count_71 : decode cX10_count 71 = .ok (.isub, 1) := by decide +kernel
theorem dX10_count_72 : decode cX10_count 72 = .ok (.invokevirtual 149, 3) := by decide +kernel
theorem dX10_count_75 : decode cX10_count 75 = .ok (.ireturn, 1) := by decide +kernel
theorem dX10_count_76 : decode cX10_count 76 = .ok (.new 153, 3) := by decide +kernel
theorem dX10_count_79 : decode cX10_count 79 = .ok (.dup, 1) := by decide +kernel
theorem dX10_count_80 : decode cX10_count 80 = .ok (.ldc 155, 2) := by decide +kernel
theorem dX10_count_82 : decode cX10_count 82 = .ok (.invokespecial 157, 3) := by decide +kernel
theorem dX10_count_85 : decode cX10_count 85 = .ok (.athrow, 1) := by decide +kernel
theorem dX10_work_0 : decode cX10_work 0 = .ok (.aload_n 0, 1) := by decide +kernel
theorem dX10_work_1 : decode cX10_work 1 = .ok (.iload_n 1, 1) := by decide +kernel
theorem dX10_work_2 : decode cX10_work 2 = .ok (.invokevirtual 158, 3) := by decide +kernel
theorem dX10_work_5 : decode cX10_work 5 = .ok (.astore_n 3, 1) := by decide +kernel
theorem dX10_work_6 : decode cX10_work 6 = .ok (.iload_n 2, 1) := by decide +kernel
theorem dX10_work_7 : decode cX10_work 7 = .ok (.tableswitch 130 0 9 #[53, 61, 66, 74, 82, 90, 95, 104, 112, 121], 53) := by decide +kernel
theorem dX10_work_60 : decode cX10_work 60 = .ok (.aload_n 3, 1) := by decide +kernel
theorem dX10_work_61 : decode cX10_work 61 = .ok (.getfield 132, 3) := by decide +kernel
theorem dX10_work_64 : decode cX10_work 64 = .ok (.getfield 162, 3) := by decide +kernel
theorem dX10_work_67 : decode cX10_work 67 = .ok (.ireturn, 1) := by decide +kernel
theorem dX10_work_68 : decode cX10_work 68 = .ok (.aload_n 3, 1) := by decide +kernel
theorem dX10_work_69 : decode cX10_work 69 = .ok (.getfield 165, 3) := by decide +kernel
theorem dX10_work_72 : decode cX10_work 72 = .ok (.ireturn, 1) := by decide +kernel
theorem dX10_work_73 : decode cX10_work 73 = .ok (.aload_n 3, 1) := by decide +kernel
theorem dX10_work_74 : decode cX10_work 74 = .ok (.getfield 132, 3) := by decide +kernel
theorem dX10_work_77 : decode cX10_work 77 = .ok (.getfield 168, 3) := by decide +kernel
theorem dX10_work_80 : decode cX10_work 80 = .ok (.ireturn, 1) := by decide +kernel
theorem dX10_work_81 : decode cX10_work 81 = .ok (.aload_n 3, 1) := by decide +kernel
theorem dX10_work_82 : decode cX10_work 82 = .ok (.getfield 132, 3) := by decide +kernel
theorem dX10_work_85 : decode cX10_work 85 = .ok (.getfield 171, 3) := by decide +kernel
theorem dX10_work_88 : decode cX10_work 88 = .ok (.ireturn, 1) := by decide +kernel
theorem dX10_work_89 : decode cX10_work 89 = .ok (.aload_n 3, 1) := by decide +kernel
theorem dX10_work_90 : decode cX10_work 90 = .ok (.getfield 132, 3) := by decide +kernel
theorem dX10_work_93 : decode cX10_work 93 = .ok (.getfield 174, 3) := by decide +kernel
theorem dX10_work_96 : decode cX10_work 96 = .ok (.ireturn, 1) := by decide +kernel
theorem dX10_work_97 : decode cX10_work 97 = .ok (.aload_n 3, 1) := by decide +kernel
theorem dX10_work_98 : decode cX10_work 98 = .ok (.getfield 177, 3) := by decide +kernel
theorem dX10_work_101 : decode cX10_work 101 = .ok (.ireturn, 1) := by decide +kernel
theorem dX10_work_102 : decode cX10_work 102 = .ok (.aload_n 0, 1) := by decide +kernel
theorem dX10_work_103 : decode cX10_work 103 = .ok (.getfield 40, 3) := by decide +kernel
theorem dX10_work_106 : decode cX10_work 106 = .ok (.iload_n 1, 1) := by decide +kernel
theorem dX10_work_107 : decode cX10_work 107 = .ok (.invokevirtual 180, 3) := by decide +kernel
theorem dX10_work_110 : decode cX10_work 110 = .ok (.ireturn, 1) := by decide +kernel
theorem dX10_work_111 : decode cX10_work 111 = .ok (.aload_n 3, 1) := by decide +kernel
theorem dX10_work_112 : decode cX10_work 112 = .ok (.getfield 132, 3) := by decide +kernel
theorem dX10_work_115 : decode cX10_work 115 = .ok (.getfield 183, 3) := by decide +kernel
theorem dX10_work_118 : decode cX10_work 118 = .ok (.ireturn, 1) := by decide +kernel
theorem dX10_work_119 : decode cX10_work 119 = .ok (.aload_n 0, 1) := by decide +kernel
theorem dX10_work_120 : decode cX10_work 120 = .ok (.getfield 40, 3) := by decide +kernel
theorem dX10_work_123 : decode cX10_work 123 = .ok (.iload_n 1, 1) := by decide +kernel
theorem dX10_work_124 : decode cX10_work 124 = .ok (.invokevirtual 186, 3) := by decide +kernel
theorem dX10_work_127 : decode cX10_work 127 = .ok (.ireturn, 1) := by decide +kernel
theorem dX10_work_128 : decode cX10_work 128 = .ok (.aload_n 0, 1) := by decide +kernel
theorem dX10_work_129 : decode cX10_work 129 = .ok (.getfield 40, 3) := by decide +kernel
theorem dX10_work_132 : decode cX10_work 132 = .ok (.iload_n 1, 1) := by decide +kernel
theorem dX10_work_133 : decode cX10_work 133 = .ok (.invokevirtual 189, 3) := by decide +kernel
theorem dX10_work_136 : decode cX10_work 136 = .ok (.ireturn, 1) := by decide +kernel
theorem dX10_work_137 : decode cX10_work 137 = .ok (.new 153, 3) := by decide +kernel
theorem dX10_work_140 : decode cX10_work 140 = .ok (.dup, 1) := by decide +kernel
theorem dX10_work_141 : decode cX10_work 141 = .ok (.ldc 155, 2) := by decide +kernel
theorem dX10_work_143 : decode cX10_work 143 = .ok (.invokespecial 157, 3) := by decide +kernel
theorem dX10_work_146 : decode cX10_work 146 = .ok (.athrow, 1) := by decide +kernel
theorem dX10_way_0 : decode cX10_way 0 = .ok (.aload_n 0, 1) := by decide +kernel
theorem dX10_way_1 : decode cX10_way 1 = .ok (.iload_n 1, 1) := by decide +kernel
theorem dX10_way_2 : decode cX10_way 2 = .ok (.invokevirtual 158, 3) := by decide +kernel
theorem dX10_way_5 : decode cX10_way 5 = .ok (.astore 4, 2) := by decide +kernel
theorem dX10_way_7 : decode cX10_way 7 = .ok (.aload 4, 2) := by decide +kernel
theorem dX10_way_9 : decode cX10_way 9 = .ok (.iload_n 2, 1) := by decide +kernel
theorem dX10_way_10 : decode cX10_way 10 = .ok (.invokestatic 192, 3) := by decide +kernel
theorem dX10_way_13 : decode cX10_way 13 = .ok (.iload_n 3, 1) := by decide +kernel
theorem dX10_way_14 : decode cX10_way 14 = .ok (.tableswitch 66 0 3 #[30, 37, 44, 59], 30) := by decide +kernel
theorem dX10_way_44 : decode cX10_way 44 = .ok (.aload 4, 2) := by decide +kernel
theorem dX10_way_46 : decode cX10_way 46 = .ok (.iload_n 2, 1) := by decide +kernel
theorem dX10_way_47 : decode cX10_way 47 = .ok (.invokevirtual 196, 3) := by decide +kernel
theorem dX10_way_50 : decode cX10_way 50 = .ok (.ireturn, 1) := by decide +kernel
theorem dX10_way_51 : decode cX10_way 51 = .ok (.aload 4, 2) := by decide +kernel
theorem dX10_way_53 : decode cX10_way 53 = .ok (.iload_n 2, 1) := by decide +kernel
theorem dX10_way_54 : decode cX10_way 54 = .ok (.invokevirtual 199, 3) := by decide +kernel
theorem dX10_way_57 : decode cX10_way 57 = .ok (.ireturn, 1) := by decide +kernel
theorem dX10_way_58 : decode cX10_way 58 = .ok (.aload 4, 2) := by decide +kernel
theorem dX10_way_60 : decode cX10_way 60 = .ok (.iload_n 2, 1) := by decide +kernel
theorem dX10_way_61 : decode cX10_way 61 = .ok (.invokevirtual 202, 3) := by decide +kernel
theorem dX10_way_64 : decode cX10_way 64 = .ok (.ifCond .eq 7, 3) := by decide +kernel
theorem dX10_way_67 : decode cX10_way 67 = .ok (.iconst 1, 1) := by decide +kernel
theorem dX10_way_68 : decode cX10_way 68 = .ok (.goto 4, 3) := by decide +kernel
theorem dX10_way_71 : decode cX10_way 71 = .ok (.iconst 0, 1) := by decide +kernel
theorem dX10_way_72 : decode cX10_way 72 = .ok (.ireturn, 1) := by decide +kernel
theorem dX10_way_73 : decode cX10_way 73 = .ok (.aload 4, 2) := by decide +kernel
theorem dX10_way_75 : decode cX10_way 75 = .ok (.iload_n 2, 1) := by decide +kernel
theorem dX10_way_76 : decode cX10_way 76 = .ok (.invokevirtual 206, 3) := by decide +kernel
theorem dX10_way_79 : decode cX10_way 79 = .ok (.ireturn, 1) := by decide +kernel
theorem dX10_way_80 : decode cX10_way 80 = .ok (.new 153, 3) := by decide +kernel
theorem dX10_way_83 : decode cX10_way 83 = .ok (.dup, 1) := by decide +kernel
theorem dX10_way_84 : decode cX10_way 84 = .ok (.ldc 155, 2) := by decide +kernel
theorem dX10_way_86 : decode cX10_way 86 = .ok (.invokespecial 157, 3) := by decide +kernel
theorem dX10_way_89 : decode cX10_way 89 = .ok (.athrow, 1) := by decide +kernel
theorem dX10_find_0 : decode cX10_find 0 = .ok (.aload_n 0, 1) := by decide +kernel
theorem dX10_find_1 : decode cX10_find 1 = .ok (.iload_n 1, 1) := by decide +kernel
theorem dX10_find_2 : decode cX10_find 2 = .ok (.invokevirtual 158, 3) := by decide +kernel
theorem dX10_find_5 : decode cX10_find 5 = .ok (.iload_n 2, 1) := by decide +kernel
theorem dX10_find_6 : decode cX10_find 6 = .ok (.invokevirtual 209, 3) := by decide +kernel
theorem dX10_find_9 : decode cX10_find 9 = .ok (.ireturn, 1) := by decide +kernel
theorem dX10_same_0 : decode cX10_same 0 = .ok (.aload_n 0, 1) := by decide +kernel
theorem dX10_same_1 : decode cX10_same 1 = .ok (.iload_n 1, 1) := by decide +kernel
theorem dX10_same_2 : decode cX10_same 2 = .ok (.invokevirtual 158, 3) := by decide +kernel
theorem dX10_same_5 : decode cX10_same 5 = .ok (.astore 5, 2) := by decide +kernel
theorem dX10_same_7 : decode cX10_same 7 = .ok (.aload 5, 2) := by decide +kernel
theorem dX10_same_9 : decode cX10_same 9 = .ok (.iload_n 2, 1) := by decide +kernel
theorem dX10_same_10 : decode cX10_same 10 = .ok (.invokestatic 192, 3) := by decide +kernel
theorem dX10_same_13 : decode cX10_same 13 = .ok (.aload 5, 2) := by decide +kernel
theorem dX10_same_15 : decode cX10_same 15 = .ok (.iload_n 3, 1) := by decide +kernel
theorem dX10_same_16 : decode cX10_same 16 = .ok (.invokestatic 192, 3) := by decide +kernel
theorem dX10_same_19 : decode cX10_same 19 = .ok (.iload 4, 2) := by decide +kernel
theorem dX10_same_21 : decode cX10_same 21 = .ok (.iconst 2, 1) := by decide +kernel
theorem dX10_same_22 : decode cX10_same 22 = .ok (.invokestatic 212, 3) := by decide +kernel
theorem dX10_same_25 : decode cX10_same 25 = .ok (.aload 5, 2) := by decide +kernel
theorem dX10_same_27 : decode cX10_same 27 = .ok (.iload_n 2, 1) := by decide +kernel
theorem dX10_same_28 : decode cX10_same 28 = .ok (.invokevirtual 199, 3) := by decide +kernel
theorem dX10_same_31 : decode cX10_same 31 = .ok (.istore 6, 2) := by decide +kernel
theorem dX10_same_33 : decode cX10_same 33 = .ok (.aload 5, 2) := by decide +kernel
theorem dX10_same_35 : decode cX10_same 35 = .ok (.iload_n 3, 1) := by decide +kernel
theorem dX10_same_36 : decode cX10_same 36 = .ok (.invokevirtual 199, 3) := by decide +kernel
theorem dX10_same_39 : decode cX10_same 39 = .ok (.istore 7, 2) := by decide +kernel
theorem dX10_same_41 : decode cX10_same 41 = .ok (.iload 4, 2) := by decide +kernel
theorem dX10_same_43 : decode cX10_same 43 = .ok (.ifCond .ne 12, 3) := by decide +kernel
theorem dX10_same_46 : decode cX10_same 46 = .ok (.iload 6, 2) := by decide +kernel
theorem dX10_same_48 : decode cX10_same 48 = .ok (.iload 7, 2) := by decide +kernel
theorem dX10_same_50 : decode cX10_same 50 = .ok (.ixor, 1) := by decide +kernel
theorem dX10_same_51 : decode cX10_same 51 = .ok (.invokestatic 216, 3) := by decide +kernel
theorem dX10_same_54 : decode cX10_same 54 = .ok (.ireturn, 1) := by decide +kernel
theorem dX10_same_55 : decode cX10_same 55 = .ok (.aload 5, 2) := by decide +kernel
theorem dX10_same_57 : decode cX10_same 57 = .ok (.iload 6, 2) := by decide +kernel
theorem dX10_same_59 : decode cX10_same 59 = .ok (.iload 7, 2) := by decide +kernel
theorem dX10_same_61 : decode cX10_same 61 = .ok (.invokevirtual 221, 3) := by decide +kernel
theorem dX10_same_64 : decode cX10_same 64 = .ok (.ifCond .eq 7, 3) := by decide +kernel
theorem dX10_same_67 : decode cX10_same 67 = .ok (.iconst 1, 1) := by decide +kernel
theorem dX10_same_68 : decode cX10_same 68 = .ok (.goto 4, 3) := by decide +kernel
theorem dX10_same_71 : decode cX10_same 71 = .ok (.iconst 0, 1) := by decide +kernel
theorem dX10_same_72 : decode cX10_same 72 = .ok (.ireturn, 1) := by decide +kernel
theorem dX10_done_0 : decode cX10_done 0 = .ok (.aload_n 0, 1) := by decide +kernel
theorem dX10_done_1 : decode cX10_done 1 = .ok (.iload_n 1, 1) := by decide +kernel
theorem dX10_done_2 : decode cX10_done 2 = .ok (.invokevirtual 158, 3) := by decide +kernel
theorem dX10_done_5 : decode cX10_done 5 = .ok (.astore_n 3, 1) := by decide +kernel
theorem dX10_done_6 : decode cX10_done 6 = .ok (.aload_n 3, 1) := by decide +kernel
theorem dX10_done_7 : decode cX10_done 7 = .ok (.iload_n 2, 1) := by decide +kernel
theorem dX10_done_8 : decode cX10_done 8 = .ok (.invokestatic 192, 3) := by decide +kernel
theorem dX10_done_11 : decode cX10_done 11 = .ok (.aload_n 3, 1) := by decide +kernel
theorem dX10_done_12 : decode cX10_done 12 = .ok (.iload_n 2, 1) := by decide +kernel
theorem dX10_done_13 : decode cX10_done 13 = .ok (.invokevirtual 202, 3) := by decide +kernel
theorem dX10_done_16 : decode cX10_done 16 = .ok (.ifCond .ne 13, 3) := by decide +kernel
theorem dX10_done_19 : decode cX10_done 19 = .ok (.aload_n 0, 1) := by decide +kernel
theorem dX10_done_20 : decode cX10_done 20 = .ok (.getfield 40, 3) := by decide +kernel
theorem dX10_done_23 : decode cX10_done 23 = .ok (.invokevirtual 225, 3) := by decide +kernel
theorem dX10_done_26 : decode cX10_done 26 = .ok (.ifCond .eq 13, 3) := by decide +kernel
theorem dX10_done_29 : decode cX10_done 29 = .ok (.aload_n 0, 1) := by decide +kernel
theorem dX10_done_30 : decode cX10_done 30 = .ok (.getfield 40, 3) := by decide +kernel
theorem dX10_done_33 : decode cX10_done 33 = .ok (.iconst 1, 1) := by decide +kernel
theorem dX10_done_34 : decode cX10_done 34 = .ok (.invokevirtual 115, 3) := by decide +kernel
theorem dX10_done_37 : decode cX10_done 37 = .ok (.iconst 0, 1) := by decide +kernel
theorem dX10_done_38 : decode cX10_done 38 = .ok (.ireturn, 1) := by decide +kernel
theorem dX10_done_39 : decode cX10_done 39 = .ok (.aload_n 0, 1) := by decide +kernel
theorem dX10_done_40 : decode cX10_done 40 = .ok (.getfield 40, 3) := by decide +kernel
theorem dX10_done_43 : decode cX10_done 43 = .ok (.iload_n 1, 1) := by decide +kernel
theorem dX10_done_44 : decode cX10_done 44 = .ok (.iload_n 2, 1) := by decide +kernel
theorem dX10_done_45 : decode cX10_done 45 = .ok (.invokevirtual 229, 3) := by decide +kernel
theorem dX10_done_48 : decode cX10_done 48 = .ok (.aload_n 3, 1) := by decide +kernel
theorem dX10_done_49 : decode cX10_done 49 = .ok (.iload_n 2, 1) := by decide +kernel
theorem dX10_done_50 : decode cX10_done 50 = .ok (.invokevirtual 232, 3) := by decide +kernel
theorem dX10_done_53 : decode cX10_done 53 = .ok (.iconst 1, 1) := by decide +kernel
theorem dX10_done_54 : decode cX10_done 54 = .ok (.ireturn, 1) := by decide +kernel
theorem dX10_book_0 : decode cX10_book 0 = .ok (.iload_n 2, 1) := by decide +kernel
theorem dX10_book_1 : decode cX10_book 1 = .ok (.iconst 2, 1) := by decide +kernel
theorem dX10_book_2 : decode cX10_book 2 = .ok (.invokestatic 212, 3) := by decide +kernel
theorem dX10_book_5 : decode cX10_book 5 = .ok (.iload_n 1, 1) := by decide +kernel
theorem dX10_book_6 : decode cX10_book 6 = .ok (.ifCond .lt 14, 3) := by decide +kernel
theorem dX10_book_9 : decode cX10_book 9 = .ok (.iload_n 1, 1) := by decide +kernel
theorem dX10_book_10 : decode cX10_book 10 = .ok (.aload_n 0, 1) := by decide +kernel
theorem dX10_book_11 : decode cX10_book 11 = .ok (.getfield 40, 3) := by decide +kernel
theorem dX10_book_14 : decode cX10_book 14 = .ok (.getfield 146, 3) := by decide +kernel
theorem dX10_book_17 : decode cX10_book 17 = .ok (.if_icmp .lt 13, 3) := by decide +kernel
theorem dX10_book_20 : decode cX10_book 20 = .ok (.new 153, 3) := by decide +kernel
theorem dX10_book_23 : decode cX10_book 23 = .ok (.dup, 1) := by decide +kernel
theorem dX10_book_24 : decode cX10_book 24 = .ok (.ldc 235, 2) := by decide +kernel
theorem dX10_book_26 : decode cX10_book 26 = .ok (.invokespecial 157, 3) := by decide +kernel
theorem dX10_book_29 : decode cX10_book 29 = .ok (.athrow, 1) := by decide +kernel
theorem dX10_book_30 : decode cX10_book 30 = .ok (.iload_n 2, 1) := by decide +kernel
theorem dX10_book_31 : decode cX10_book 31 = .ok (.ifCond .ne 14, 3) := by decide +kernel
theorem dX10_book_34 : decode cX10_book 34 = .ok (.aload_n 0, 1) := by decide +kernel
theorem dX10_book_35 : decode cX10_book 35 = .ok (.getfield 40, 3) := by decide +kernel
theorem dX10_book_38 : decode cX10_book 38 = .ok (.iload_n 1, 1) := by decide +kernel
theorem dX10_book_39 : decode cX10_book 39 = .ok (.invokevirtual 237, 3) := by decide +kernel
theorem dX10_book_42 : decode cX10_book 42 = .ok (.goto 11, 3) := by decide +kernel
theorem dX10_book_45 : decode cX10_book 45 = .ok (.aload_n 0, 1) := by decide +kernel
theorem dX10_book_46 : decode cX10_book 46 = .ok (.getfield 40, 3) := by decide +kernel
theorem dX10_book_49 : decode cX10_book 49 = .ok (.iload_n 1, 1) := by decide +kernel
theorem dX10_book_50 : decode cX10_book 50 = .ok (.invokevirtual 240, 3) := by decide +kernel
theorem dX10_book_53 : decode cX10_book 53 = .ok (.ireturn, 1) := by decide +kernel
theorem dX10_left_0 : decode cX10_left 0 = .ok (.aload_n 0, 1) := by decide +kernel
theorem dX10_left_1 : decode cX10_left 1 = .ok (.iload_n 1, 1) := by decide +kernel
theorem dX10_left_2 : decode cX10_left 2 = .ok (.invokevirtual 158, 3) := by decide +kernel
theorem dX10_left_5 : decode cX10_left 5 = .ok (.astore_n 3, 1) := by decide +kernel
theorem dX10_left_6 : decode cX10_left 6 = .ok (.iload_n 2, 1) := by decide +kernel
theorem dX10_left_7 : decode cX10_left 7 = .ok (.ifCond .ge 13, 3) := by decide +kernel
theorem dX10_left_10 : decode cX10_left 10 = .ok (.new 153, 3) := by decide +kernel
theorem dX10_left_13 : decode cX10_left 13 = .ok (.dup, 1) := by decide +kernel
theorem dX10_left_14 : decode cX10_left 14 = .ok (.ldc 243, 2) := by decide +kernel
theorem dX10_left_16 : decode cX10_left 16 = .ok (.invokespecial 157, 3) := by decide +kernel
theorem dX10_left_19 : decode cX10_left 19 = .ok (.athrow, 1) := by decide +kernel
theorem dX10_left_20 : decode cX10_left 20 = .ok (.aload_n 3, 1) := by decide +kernel
theorem dX10_left_21 : decode cX10_left 21 = .ok (.iload_n 2, 1) := by decide +kernel
theorem dX10_left_22 : decode cX10_left 22 = .ok (.invokevirtual 245, 3) := by decide +kernel
theorem dX10_left_25 : decode cX10_left 25 = .ok (.ireturn, 1) := by decide +kernel
theorem dX10_tell_0 : decode cX10_tell 0 = .ok (.aload_n 0, 1) := by decide +kernel
theorem dX10_tell_1 : decode cX10_tell 1 = .ok (.iload_n 1, 1) := by decide +kernel
theorem dX10_tell_2 : decode cX10_tell 2 = .ok (.invokevirtual 158, 3) := by decide +kernel
theorem dX10_tell_5 : decode cX10_tell 5 = .ok (.pop, 1) := by decide +kernel
theorem dX10_tell_6 : decode cX10_tell 6 = .ok (.aload_n 0, 1) := by decide +kernel
theorem dX10_tell_7 : decode cX10_tell 7 = .ok (.getfield 40, 3) := by decide +kernel
theorem dX10_tell_10 : decode cX10_tell 10 = .ok (.iload_n 1, 1) := by decide +kernel
theorem dX10_tell_11 : decode cX10_tell 11 = .ok (.invokevirtual 186, 3) := by decide +kernel
theorem dX10_tell_14 : decode cX10_tell 14 = .ok (.bipush 100, 2) := by decide +kernel
theorem dX10_tell_16 : decode cX10_tell 16 = .ok (.if_icmp .lt 13, 3) := by decide +kernel
theorem dX10_tell_19 : decode cX10_tell 19 = .ok (.aload_n 0, 1) := by decide +kernel
theorem dX10_tell_20 : decode cX10_tell 20 = .ok (.getfield 40, 3) := by decide +kernel
theorem dX10_tell_23 : decode cX10_tell 23 = .ok (.iconst 2, 1) := by decide +kernel
theorem dX10_tell_24 : decode cX10_tell 24 = .ok (.invokevirtual 115, 3) := by decide +kernel
theorem dX10_tell_27 : decode cX10_tell 27 = .ok (.iconst (-1), 1) := by decide +kernel
theorem dX10_tell_28 : decode cX10_tell 28 = .ok (.ireturn, 1) := by decide +kernel
theorem dX10_tell_29 : decode cX10_tell 29 = .ok (.aload_n 0, 1) := by decide +kernel
theorem dX10_tell_30 : decode cX10_tell 30 = .ok (.getfield 40, 3) := by decide +kernel
theorem dX10_tell_33 : decode cX10_tell 33 = .ok (.iload_n 1, 1) := by decide +kernel
theorem dX10_tell_34 : decode cX10_tell 34 = .ok (.iload_n 2, 1) := by decide +kernel
theorem dX10_tell_35 : decode cX10_tell 35 = .ok (.invokevirtual 248, 3) := by decide +kernel
theorem dX10_tell_38 : decode cX10_tell 38 = .ok (.ireturn, 1) := by decide +kernel
theorem dX10_judge_0 : decode cX10_judge 0 = .ok (.aload_n 0, 1) := by decide +kernel
theorem dX10_judge_1 : decode cX10_judge 1 = .ok (.iload_n 1, 1) := by decide +kernel
theorem dX10_judge_2 : decode cX10_judge 2 = .ok (.invokevirtual 158, 3) := by decide +kernel
theorem dX10_judge_5 : decode cX10_judge 5 = .ok (.astore_n 3, 1) := by decide +kernel
theorem dX10_judge_6 : decode cX10_judge 6 = .ok (.iload_n 2, 1) := by decide +kernel
theorem dX10_judge_7 : decode cX10_judge 7 = .ok (.iconst 2, 1) := by decide +kernel
theorem dX10_judge_8 : decode cX10_judge 8 = .ok (.invokestatic 212, 3) := by decide +kernel
theorem dX10_judge_11 : decode cX10_judge 11 = .ok (.aload_n 0, 1) := by decide +kernel
theorem dX10_judge_12 : decode cX10_judge 12 = .ok (.getfield 40, 3) := by decide +kernel
theorem dX10_judge_15 : decode cX10_judge 15 = .ok (.iload_n 1, 1) := by decide +kernel
theorem dX10_judge_16 : decode cX10_judge 16 = .ok (.invokevirtual 186, 3) := by decide +kernel
theorem dX10_judge_19 : decode cX10_judge 19 = .ok (.istore 4, 2) := by decide +kernel
theorem dX10_judge_21 : decode cX10_judge 21 = .ok (.iconst 0, 1) := by decide +kernel
theorem dX10_judge_22 : decode cX10_judge 22 = .ok (.istore 5, 2) := by decide +kernel
theorem dX10_judge_24 : decode cX10_judge 24 = .ok (.iload 5, 2) := by decide +kernel
theorem dX10_judge_26 : decode cX10_judge 26 = .ok (.iload 4, 2) := by decide +kernel
theorem dX10_judge_28 : decode cX10_judge 28 = .ok (.if_icmp .ge 89, 3) := by decide +kernel
theorem dX10_judge_31 : decode cX10_judge 31 = .ok (.aload_n 0, 1) := by decide +kernel
theorem dX10_judge_32 : decode cX10_judge 32 = .ok (.getfield 40, 3) := by decide +kernel
theorem dX10_judge_35 : decode cX10_judge 35 = .ok (.iload_n 1, 1) := by decide +kernel
theorem dX10_judge_36 : decode cX10_judge 36 = .ok (.iload 5, 2) := by decide +kernel
theorem dX10_judge_38 : decode cX10_judge 38 = .ok (.invokevirtual 251, 3) := by decide +kernel
theorem dX10_judge_41 : decode cX10_judge 41 = .ok (.istore 6, 2) := by decide +kernel
theorem dX10_judge_43 : decode cX10_judge 43 = .ok (.aload_n 3, 1) := by decide +kernel
theorem dX10_judge_44 : decode cX10_judge 44 = .ok (.iload 6, 2) := by decide +kernel
theorem dX10_judge_46 : decode cX10_judge 46 = .ok (.invokevirtual 209, 3) := by decide +kernel
theorem dX10_judge_49 : decode cX10_judge 49 = .ok (.iconst (-1), 1) := by decide +kernel
theorem dX10_judge_50 : decode cX10_judge 50 = .ok (.if_icmp .ne 14, 3) := by decide +kernel
theorem dX10_judge_53 : decode cX10_judge 53 = .ok (.iload_n 2, 1) := by decide +kernel
theorem dX10_judge_54 : decode cX10_judge 54 = .ok (.ifCond .ne 8, 3) := by decide +kernel
theorem dX10_judge_57 : decode cX10_judge 57 = .ok (.iload 5, 2) := by decide +kernel
theorem dX10_judge_59 : decode cX10_judge 59 = .ok (.goto 4, 3) := by decide +kernel
theorem dX10_judge_62 : decode cX10_judge 62 = .ok (.iconst (-1), 1) := by decide +kernel
theorem dX10_judge_63 : decode cX10_judge 63 = .ok (.ireturn, 1) := by decide +kernel
theorem dX10_judge_64 : decode cX10_judge 64 = .ok (.iconst 0, 1) := by decide +kernel
theorem dX10_judge_65 : decode cX10_judge 65 = .ok (.istore 7, 2) := by decide +kernel
theorem dX10_judge_67 : decode cX10_judge 67 = .ok (.iload 7, 2) := by decide +kernel
theorem dX10_judge_69 : decode cX10_judge 69 = .ok (.iload 5, 2) := by decide +kernel
theorem dX10_judge_71 : decode cX10_judge 71 = .ok (.if_icmp .ge 40, 3) := by decide +kernel
theorem dX10_judge_74 : decode cX10_judge 74 = .ok (.aload_n 3, 1) := by decide +kernel
theorem dX10_judge_75 : decode cX10_judge 75 = .ok (.aload_n 0, 1) := by decide +kernel
theorem dX10_judge_76 : decode cX10_judge 76 = .ok (.getfield 40, 3) := by decide +kernel
theorem dX10_judge_79 : decode cX10_judge 79 = .ok (.iload_n 1, 1) := by decide +kernel
theorem dX10_judge_80 : decode cX10_judge 80 = .ok (.iload 7, 2) := by decide +kernel
theorem dX10_judge_82 : decode cX10_judge 82 = .ok (.invokevirtual 251, 3) := by decide +kernel
theorem dX10_judge_85 : decode cX10_judge 85 = .ok (.iload 6, 2) := by decide +kernel
theorem dX10_judge_87 : decode cX10_judge 87 = .ok (.invokevirtual 221, 3) := by decide +kernel
theorem dX10_judge_90 : decode cX10_judge 90 = .ok (.ifCond .eq 15, 3) := by decide +kernel
theorem dX10_judge_93 : decode cX10_judge 93 = .ok (.iload_n 2, 1) := by decide +kernel
theorem dX10_judge_94 : decode cX10_judge 94 = .ok (.ifCond .ne 8, 3) := by decide +kernel
theorem dX10_judge_97 : decode cX10_judge 97 = .ok (.iload 5, 2) := by decide +kernel
theorem dX10_judge_99 : decode cX10_judge 99 = .ok (.goto 5, 3) := by decide +kernel
theorem dX10_judge_102 : decode cX10_judge 102 = .ok (.iload 7, 2) := by decide +kernel
theorem dX10_judge_104 : decode cX10_judge 104 = .ok (.ireturn, 1) := by decide +kernel
theorem dX10_judge_105 : decode cX10_judge 105 = .ok (.iinc 7 1, 3) := by decide +kernel
theorem dX10_judge_108 : decode cX10_judge 108 = .ok (.goto (-41), 3) := by decide +kernel
theorem dX10_judge_111 : decode cX10_judge 111 = .ok (.iinc 5 1, 3) := by decide +kernel
theorem dX10_judge_114 : decode cX10_judge 114 = .ok (.goto (-90), 3) := by decide +kernel
theorem dX10_judge_117 : decode cX10_judge 117 = .ok (.iconst (-1), 1) := by decide +kernel
theorem dX10_judge_118 : decode cX10_judge 118 = .ok (.ireturn, 1) := by decide +kernel
theorem dX10_apart_0 : decode cX10_apart 0 = .ok (.aload_n 0, 1) := by decide +kernel
theorem dX10_apart_1 : decode cX10_apart 1 = .ok (.iload_n 1, 1) := by decide +kernel
theorem dX10_apart_2 : decode cX10_apart 2 = .ok (.invokevirtual 158, 3) := by decide +kernel
theorem dX10_apart_5 : decode cX10_apart 5 = .ok (.astore 4, 2) := by decide +kernel
theorem dX10_apart_7 : decode cX10_apart 7 = .ok (.iload_n 3, 1) := by decide +kernel
theorem dX10_apart_8 : decode cX10_apart 8 = .ok (.iconst 3, 1) := by decide +kernel
theorem dX10_apart_9 : decode cX10_apart 9 = .ok (.invokestatic 212, 3) := by decide +kernel
theorem dX10_apart_12 : decode cX10_apart 12 = .ok (.iload_n 2, 1) := by decide +kernel
theorem dX10_apart_13 : decode cX10_apart 13 = .ok (.iconst 0, 1) := by decide +kernel
theorem dX10_apart_14 : decode cX10_apart 14 = .ok (.bipush 30, 2) := by decide +kernel
theorem dX10_apart_16 : decode cX10_apart 16 = .ok (.invokestatic 254, 3) := by decide +kernel
theorem dX10_apart_19 : decode cX10_apart 19 = .ok (.aload_n 0, 1) := by decide +kernel
theorem dX10_apart_20 : decode cX10_apart 20 = .ok (.getfield 57, 3) := by decide +kernel
theorem dX10_apart_23 : decode cX10_apart 23 = .ok (.aload 4, 2) := by decide +kernel
theorem dX10_apart_25 : decode cX10_apart 25 = .ok (.iload_n 2, 1) := by decide +kernel
theorem dX10_apart_26 : decode cX10_apart 26 = .ok (.invokevirtual 258, 3) := by decide +kernel
theorem dX10_apart_29 : decode cX10_apart 29 = .ok (.iload_n 3, 1) := by decide +kernel
theorem dX10_apart_30 : decode cX10_apart 30 = .ok (.lookupswitch 42 #[(0, 26), (1, 34)], 26) := by decide +kernel
theorem dX10_apart_56 : decode cX10_apart 56 = .ok (.aload_n 0, 1) := by decide +kernel
theorem dX10_apart_57 : decode cX10_apart 57 = .ok (.getfield 57, 3) := by decide +kernel
theorem dX10_apart_60 : decode cX10_apart 60 = .ok (.getfield 261, 3) := by decide +kernel
theorem dX10_apart_63 : decode cX10_apart 63 = .ok (.ireturn, 1) := by decide +kernel
theorem dX10_apart_64 : decode cX10_apart 64 = .ok (.aload_n 0, 1) := by decide +kernel
theorem dX10_apart_65 : decode cX10_apart 65 = .ok (.getfield 57, 3) := by decide +kernel
theorem dX10_apart_68 : decode cX10_apart 68 = .ok (.getfield 264, 3) := by decide +kernel
theorem dX10_apart_71 : decode cX10_apart 71 = .ok (.ireturn, 1) := by decide +kernel
theorem dX10_apart_72 : decode cX10_apart 72 = .ok (.aload_n 0, 1) := by decide +kernel
theorem dX10_apart_73 : decode cX10_apart 73 = .ok (.getfield 57, 3) := by decide +kernel
theorem dX10_apart_76 : decode cX10_apart 76 = .ok (.getfield 267, 3) := by decide +kernel
theorem dX10_apart_79 : decode cX10_apart 79 = .ok (.ireturn, 1) := by decide +kernel
theorem dX10_weight_0 : decode cX10_weight 0 = .ok (.iload_n 1, 1) := by decide +kernel
theorem dX10_weight_1 : decode cX10_weight 1 = .ok (.ifCond .lt 19, 3) := by decide +kernel
theorem dX10_weight_4 : decode cX10_weight 4 = .ok (.iload_n 1, 1) := by decide +kernel
theorem dX10_weight_5 : decode cX10_weight 5 = .ok (.bipush 100, 2) := by decide +kernel
theorem dX10_weight_7 : decode cX10_weight 7 = .ok (.if_icmp .ge 13, 3) := by decide +kernel
theorem dX10_weight_10 : decode cX10_weight 10 = .ok (.iload_n 2, 1) := by decide +kernel
theorem dX10_weight_11 : decode cX10_weight 11 = .ok (.ifCond .lt 9, 3) := by decide +kernel
theorem dX10_weight_14 : decode cX10_weight 14 = .ok (.iload_n 2, 1) := by decide +kernel
theorem dX10_weight_15 : decode cX10_weight 15 = .ok (.bipush 99, 2) := by decide +kernel
theorem dX10_weight_17 : decode cX10_weight 17 = .ok (.if_icmp .le 5, 3) := by decide +kernel
theorem dX10_weight_20 : decode cX10_weight 20 = .ok (.iconst 0, 1) := by decide +kernel
theorem dX10_weight_21 : decode cX10_weight 21 = .ok (.ireturn, 1) := by decide +kernel
theorem dX10_weight_22 : decode cX10_weight 22 = .ok (.aload_n 0, 1) := by decide +kernel
theorem dX10_weight_23 : decode cX10_weight 23 = .ok (.getfield 40, 3) := by decide +kernel
theorem dX10_weight_26 : decode cX10_weight 26 = .ok (.iload_n 1, 1) := by decide +kernel
theorem dX10_weight_27 : decode cX10_weight 27 = .ok (.iload_n 2, 1) := by decide +kernel
theorem dX10_weight_28 : decode cX10_weight 28 = .ok (.invokevirtual 270, 3) := by decide +kernel
theorem dX10_weight_31 : decode cX10_weight 31 = .ok (.iconst 1, 1) := by decide +kernel
theorem dX10_weight_32 : decode cX10_weight 32 = .ok (.ireturn, 1) := by decide +kernel
theorem dX10_years_0 : decode cX10_years 0 = .ok (.aload_n 0, 1) := by decide +kernel
theorem dX10_years_1 : decode cX10_years 1 = .ok (.iload_n 1, 1) := by decide +kernel
theorem dX10_years_2 : decode cX10_years 2 = .ok (.invokevirtual 158, 3) := by decide +kernel
theorem dX10_years_5 : decode cX10_years 5 = .ok (.astore 4, 2) := by decide +kernel
theorem dX10_years_7 : decode cX10_years 7 = .ok (.iload_n 3, 1) := by decide +kernel
theorem dX10_years_8 : decode cX10_years 8 = .ok (.iconst 2, 1) := by decide +kernel
theorem dX10_years_9 : decode cX10_years 9 = .ok (.invokestatic 212, 3) := by decide +kernel
theorem dX10_years_12 : decode cX10_years 12 = .ok (.iload_n 2, 1) := by decide +kernel
theorem dX10_years_13 : decode cX10_years 13 = .ok (.iconst 1, 1) := by decide +kernel
theorem dX10_years_14 : decode cX10_years 14 = .ok (.bipush 100, 2) := by decide +kernel
