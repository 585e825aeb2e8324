theorem dX0_init_0 : decode cX0_init 0 = .ok (.aload_n 0, 1) := by decide +kernel
theorem dX0_init_1 : decode cX0_init 1 = .ok (.invokespecial 3, 3) := by decide +kernel
theorem dX0_init_4 : decode cX0_init 4 = .ok (.aload_n 0, 1) := by decide +kernel
theorem dX0_init_5 : decode cX0_init 5 = .ok (.bipush 100, 2) := by decide +kernel
theorem dX0_init_7 : decode cX0_init 7 = .ok (.newarray .int, 2) := by decide +kernel
theorem dX0_init_9 : decode cX0_init 9 = .ok (.putfield 9, 3) := by decide +kernel
theorem dX0_init_12 : decode cX0_init 12 = .ok (.return_, 1) := by decide +kernel
theorem dX0_countWeights_0 : decode cX0_countWeights 0 = .ok (.aload_n 0, 1) := by decide +kernel
theorem dX0_countWeights_1 : decode cX0_countWeights 1 = .ok (.getfield 9, 3) := by decide +kernel
theorem dX0_countWeights_4 : decode cX0_countWeights 4 = .ok (.iconst 0, 1) := by decide +kernel
theorem dX0_countWeights_5 : decode cX0_countWeights 5 = .ok (.invokestatic 15, 3) := by decide +kernel
theorem dX0_countWeights_8 : decode cX0_countWeights 8 = .ok (.iconst 0, 1) := by decide +kernel
theorem dX0_countWeights_9 : decode cX0_countWeights 9 = .ok (.istore_n 3, 1) := by decide +kernel
theorem dX0_countWeights_10 : decode cX0_countWeights 10 = .ok (.iload_n 3, 1) := by decide +kernel
theorem dX0_countWeights_11 : decode cX0_countWeights 11 = .ok (.iload_n 2, 1) := by decide +kernel
theorem dX0_countWeights_12 : decode cX0_countWeights 12 = .ok (.if_icmp .ge 36, 3) := by decide +kernel
theorem dX0_countWeights_15 : decode cX0_countWeights 15 = .ok (.aload_n 1, 1) := by decide +kernel
theorem dX0_countWeights_16 : decode cX0_countWeights 16 = .ok (.iload_n 3, 1) := by decide +kernel
theorem dX0_countWeights_17 : decode cX0_countWeights 17 = .ok (.invokevirtual 21, 3) := by decide +kernel
theorem dX0_countWeights_20 : decode cX0_countWeights 20 = .ok (.istore 4, 2) := by decide +kernel
theorem dX0_countWeights_22 : decode cX0_countWeights 22 = .ok (.aload_n 0, 1) := by decide +kernel
theorem dX0_countWeights_23 : decode cX0_countWeights 23 = .ok (.getfield 9, 3) := by decide +kernel
theorem dX0_countWeights_26 : decode cX0_countWeights 26 = .ok (.iload 4, 2) := by decide +kernel
theorem dX0_countWeights_28 : decode cX0_countWeights 28 = .ok (.aload_n 0, 1) := by decide +kernel
theorem dX0_countWeights_29 : decode cX0_countWeights 29 = .ok (.getfield 9, 3) := by decide +kernel
theorem dX0_countWeights_32 : decode cX0_countWeights 32 = .ok (.iload 4, 2) := by decide +kernel
theorem dX0_countWeights_34 : decode cX0_countWeights 34 = .ok (.invokestatic 27, 3) := by decide +kernel
theorem dX0_countWeights_37 : decode cX0_countWeights 37 = .ok (.iconst 1, 1) := by decide +kernel
theorem dX0_countWeights_38 : decode cX0_countWeights 38 = .ok (.iadd, 1) := by decide +kernel
theorem dX0_countWeights_39 : decode cX0_countWeights 39 = .ok (.invokestatic 31, 3) := by decide +kernel
theorem dX0_countWeights_42 : decode cX0_countWeights 42 = .ok (.iinc 3 1, 3) := by decide +kernel
theorem dX0_countWeights_45 : decode cX0_countWeights 45 = .ok (.goto (-35), 3) := by decide +kernel
theorem dX0_countWeights_48 : decode cX0_countWeights 48 = .ok (.return_, 1) := by decide +kernel
theorem dX0_leastCost_0 : decode cX0_leastCost 0 = .ok (.iconst 0, 1) := by decide +kernel
theorem dX0_leastCost_1 : decode cX0_leastCost 1 = .ok (.istore_n 3, 1) := by decide +kernel
theorem dX0_leastCost_2 : decode cX0_leastCost 2 = .ok (.aload_n 1, 1) := by decide +kernel
theorem dX0_leastCost_3 : decode cX0_leastCost 3 = .ok (.iload_n 2, 1) := by decide +kernel
theorem dX0_leastCost_4 : decode cX0_leastCost 4 = .ok (.invokevirtual 35, 3) := by decide +kernel
theorem dX0_leastCost_7 : decode cX0_leastCost 7 = .ok (.istore 4, 2) := by decide +kernel
theorem dX0_leastCost_9 : decode cX0_leastCost 9 = .ok (.bipush 99, 2) := by decide +kernel
theorem dX0_leastCost_11 : decode cX0_leastCost 11 = .ok (.istore 5, 2) := by decide +kernel
theorem dX0_leastCost_13 : decode cX0_leastCost 13 = .ok (.iload 5, 2) := by decide +kernel
theorem dX0_leastCost_15 : decode cX0_leastCost 15 = .ok (.ifCond .lt 59, 3) := by decide +kernel
theorem dX0_leastCost_18 : decode cX0_leastCost 18 = .ok (.aload_n 0, 1) := by decide +kernel
theorem dX0_leastCost_19 : decode cX0_leastCost 19 = .ok (.getfield 9, 3) := by decide +kernel
theorem dX0_leastCost_22 : decode cX0_leastCost 22 = .ok (.iload 5, 2) := by decide +kernel
theorem dX0_leastCost_24 : decode cX0_leastCost 24 = .ok (.invokestatic 27, 3) := by decide +kernel
theorem dX0_leastCost_27 : decode cX0_leastCost 27 = .ok (.istore 6, 2) := by decide +kernel
theorem dX0_leastCost_29 : decode cX0_leastCost 29 = .ok (.iload 6, 2) := by decide +kernel
theorem dX0_leastCost_31 : decode cX0_leastCost 31 = .ok (.ifCond .le 37, 3) := by decide +kernel
theorem dX0_leastCost_34 : decode cX0_leastCost 34 = .ok (.iload 4, 2) := by decide +kernel
theorem dX0_leastCost_36 : decode cX0_leastCost 36 = .ok (.iconst (-1), 1) := by decide +kernel
theorem dX0_leastCost_37 : decode cX0_leastCost 37 = .ok (.if_icmp .eq 31, 3) := by decide +kernel
theorem dX0_leastCost_40 : decode cX0_leastCost 40 = .ok (.iload_n 3, 1) := by decide +kernel
theorem dX0_leastCost_41 : decode cX0_leastCost 41 = .ok (.iload 5, 2) := by decide +kernel
theorem dX0_leastCost_43 : decode cX0_leastCost 43 = .ok (.aload_n 1, 1) := by decide +kernel
theorem dX0_leastCost_44 : decode cX0_leastCost 44 = .ok (.iload 4, 2) := by decide +kernel
theorem dX0_leastCost_46 : decode cX0_leastCost 46 = .ok (.invokevirtual 40, 3) := by decide +kernel
theorem dX0_leastCost_49 : decode cX0_leastCost 49 = .ok (.imul, 1) := by decide +kernel
theorem dX0_leastCost_50 : decode cX0_leastCost 50 = .ok (.iadd, 1) := by decide +kernel
theorem dX0_leastCost_51 : decode cX0_leastCost 51 = .ok (.istore_n 3, 1) := by decide +kernel
theorem dX0_leastCost_52 : decode cX0_leastCost 52 = .ok (.aload_n 1, 1) := by decide +kernel
theorem dX0_leastCost_53 : decode cX0_leastCost 53 = .ok (.iload 4, 2) := by decide +kernel
theorem dX0_leastCost_55 : decode cX0_leastCost 55 = .ok (.iconst 1, 1) := by decide +kernel
theorem dX0_leastCost_56 : decode cX0_leastCost 56 = .ok (.iadd, 1) := by decide +kernel
theorem dX0_leastCost_57 : decode cX0_leastCost 57 = .ok (.invokevirtual 43, 3) := by decide +kernel
theorem dX0_leastCost_60 : decode cX0_leastCost 60 = .ok (.istore 4, 2) := by decide +kernel
theorem dX0_leastCost_62 : decode cX0_leastCost 62 = .ok (.iinc 6 (-1), 3) := by decide +kernel
theorem dX0_leastCost_65 : decode cX0_leastCost 65 = .ok (.goto (-36), 3) := by decide +kernel
theorem dX0_leastCost_68 : decode cX0_leastCost 68 = .ok (.iinc 5 (-1), 3) := by decide +kernel
theorem dX0_leastCost_71 : decode cX0_leastCost 71 = .ok (.goto (-58), 3) := by decide +kernel
theorem dX0_leastCost_74 : decode cX0_leastCost 74 = .ok (.iload_n 3, 1) := by decide +kernel
theorem dX0_leastCost_75 : decode cX0_leastCost 75 = .ok (.ireturn, 1) := by decide +kernel
theorem dX1_init_0 : decode cX1_init 0 = .ok (.aload_n 0, 1) := by decide +kernel
theorem dX1_init_1 : decode cX1_init 1 = .ok (.invokespecial 3, 3) := by decide +kernel
theorem dX1_init_4 : decode cX1_init 4 = .ok (.aload_n 0, 1) := by decide +kernel
theorem dX1_init_5 : decode cX1_init 5 = .ok (.sipush 400, 3) := by decide +kernel
theorem dX1_init_8 : decode cX1_init 8 = .ok (.newarray .int, 2) := by decide +kernel
theorem dX1_init_10 : decode cX1_init 10 = .ok (.putfield 9, 3) := by decide +kernel
theorem dX1_init_13 : decode cX1_init 13 = .ok (.aload_n 0, 1) := by decide +kernel
theorem dX1_init_14 : decode cX1_init 14 = .ok (.sipush 400, 3) := by decide +kernel
theorem dX1_init_17 : decode cX1_init 17 = .ok (.newarray .int, 2) := by decide +kernel
theorem dX1_init_19 : decode cX1_init 19 = .ok (.putfield 15, 3) := by decide +kernel
theorem dX1_init_22 : decode cX1_init 22 = .ok (.aload_n 0, 1) := by decide +kernel
theorem dX1_init_23 : decode cX1_init 23 = .ok (.bipush 6, 2) := by decide +kernel
theorem dX1_init_25 : decode cX1_init 25 = .ok (.newarray .int, 2) := by decide +kernel
theorem dX1_init_27 : decode cX1_init 27 = .ok (.putfield 18, 3) := by decide +kernel
theorem dX1_init_30 : decode cX1_init 30 = .ok (.aload_n 0, 1) := by decide +kernel
theorem dX1_init_31 : decode cX1_init 31 = .ok (.sipush 600, 3) := by decide +kernel
theorem dX1_init_34 : decode cX1_init 34 = .ok (.newarray .int, 2) := by decide +kernel
theorem dX1_init_36 : decode cX1_init 36 = .ok (.putfield 21, 3) := by decide +kernel
theorem dX1_init_39 : decode cX1_init 39 = .ok (.aload_n 0, 1) := by decide +kernel
theorem dX1_init_40 : decode cX1_init 40 = .ok (.bipush 6, 2) := by decide +kernel
theorem dX1_init_42 : decode cX1_init 42 = .ok (.newarray .int, 2) := by decide +kernel
theorem dX1_init_44 : decode cX1_init 44 = .ok (.putfield 24, 3) := by decide +kernel
theorem dX1_init_47 : decode cX1_init 47 = .ok (.aload_n 0, 1) := by decide +kernel
theorem dX1_init_48 : decode cX1_init 48 = .ok (.bipush 72, 2) := by decide +kernel
theorem dX1_init_50 : decode cX1_init 50 = .ok (.newarray .int, 2) := by decide +kernel
theorem dX1_init_52 : decode cX1_init 52 = .ok (.putfield 27, 3) := by decide +kernel
theorem dX1_init_55 : decode cX1_init 55 = .ok (.aload_n 0, 1) := by decide +kernel
theorem dX1_init_56 : decode cX1_init 56 = .ok (.bipush 100, 2) := by decide +kernel
theorem dX1_init_58 : decode cX1_init 58 = .ok (.newarray .int, 2) := by decide +kernel
theorem dX1_init_60 : decode cX1_init 60 = .ok (.putfield 30, 3) := by decide +kernel
theorem dX1_init_63 : decode cX1_init 63 = .ok (.aload_n 0, 1) := by decide +kernel
theorem dX1_init_64 : decode cX1_init 64 = .ok (.iconst 4, 1) := by decide +kernel
theorem dX1_init_65 : decode cX1_init 65 = .ok (.newarray .int, 2) := by decide +kernel
theorem dX1_init_67 : decode cX1_init 67 = .ok (.putfield 33, 3) := by decide +kernel
theorem dX1_init_70 : decode cX1_init 70 = .ok (.aload_n 0, 1) := by decide +kernel
theorem dX1_init_71 : decode cX1_init 71 = .ok (.getfield 30, 3) := by decide +kernel
theorem dX1_init_74 : decode cX1_init 74 = .ok (.iconst 1, 1) := by decide +kernel
theorem dX1_init_75 : decode cX1_init 75 = .ok (.invokestatic 36, 3) := by decide +kernel
theorem dX1_init_78 : decode cX1_init 78 = .ok (.return_, 1) := by decide +kernel
theorem dX1_clearForTown_0 : decode cX1_clearForTown 0 = .ok (.aload_n 0, 1) := by decide +kernel
theorem dX1_clearForTown_1 : decode cX1_clearForTown 1 = .ok (.iconst 0, 1) := by decide +kernel
theorem dX1_clearForTown_2 : decode cX1_clearForTown 2 = .ok (.putfield 42, 3) := by decide +kernel
theorem dX1_clearForTown_5 : decode cX1_clearForTown 5 = .ok (.aload_n 0, 1) := by decide +kernel
theorem dX1_clearForTown_6 : decode cX1_clearForTown 6 = .ok (.getfield 18, 3) := by decide +kernel
theorem dX1_clearForTown_9 : decode cX1_clearForTown 9 = .ok (.iconst 0, 1) := by decide +kernel
theorem dX1_clearForTown_10 : decode cX1_clearForTown 10 = .ok (.invokestatic 36, 3) := by decide +kernel
theorem dX1_clearForTown_13 : decode cX1_clearForTown 13 = .ok (.aload_n 0, 1) := by decide +kernel
theorem dX1_clearForTown_14 : decode cX1_clearForTown 14 = .ok (.getfield 24, 3) := by decide +kernel
theorem dX1_clearForTown_17 : decode cX1_clearForTown 17 = .ok (.iconst 0, 1) := by decide +kernel
theorem dX1_clearForTown_18 : decode cX1_clearForTown 18 = .ok (.invokestatic 36, 3) := by decide +kernel
theorem dX1_clearForTown_21 : decode cX1_clearForTown 21 = .ok (.aload_n 0, 1) := by decide +kernel
theorem dX1_clearForTown_22 : decode cX1_clearForTown 22 = .ok (.getfield 30, 3) := by decide +kernel
theorem dX1_clearForTown_25 : decode cX1_clearForTown 25 = .ok (.iconst 1, 1) := by decide +kernel
theorem dX1_clearForTown_26 : decode cX1_clearForTown 26 = .ok (.invokestatic 36, 3) := by decide +kernel
theorem dX1_clearForTown_29 : decode cX1_clearForTown 29 = .ok (.return_, 1) := by decide +kernel
theorem dX1_copy_0 : decode cX1_copy 0 = .ok (.aload_n 0, 1) := by decide +kernel
theorem dX1_copy_1 : decode cX1_copy 1 = .ok (.aload_n 1, 1) := by decide +kernel
theorem dX1_copy_2 : decode cX1_copy 2 = .ok (.getfield 42, 3) := by decide +kernel
theorem dX1_copy_5 : decode cX1_copy 5 = .ok (.putfield 42, 3) := by decide +kernel
theorem dX1_copy_8 : decode cX1_copy 8 = .ok (.aload_n 1, 1) := by decide +kernel
theorem dX1_copy_9 : decode cX1_copy 9 = .ok (.getfield 9, 3) := by decide +kernel
theorem dX1_copy_12 : decode cX1_copy 12 = .ok (.iconst 0, 1) := by decide +kernel
theorem dX1_copy_13 : decode cX1_copy 13 = .ok (.aload_n 0, 1) := by decide +kernel
theorem dX1_copy_14 : decode cX1_copy 14 = .ok (.getfield 9, 3) := by decide +kernel
theorem dX1_copy_17 : decode cX1_copy 17 = .ok (.iconst 0, 1) := by decide +kernel
theorem dX1_copy_18 : decode cX1_copy 18 = .ok (.sipush 400, 3) := by decide +kernel
theorem dX1_copy_21 : decode cX1_copy 21 = .ok (.invokestatic 46, 3) := by decide +kernel
theorem dX1_copy_24 : decode cX1_copy 24 = .ok (.aload_n 1, 1) := by decide +kernel
theorem dX1_copy_25 : decode cX1_copy 25 = .ok (.getfield 15, 3) := by decide +kernel
theorem dX1_copy_28 : decode cX1_copy 28 = .ok (.iconst 0, 1) := by decide +kernel
theorem dX1_copy_29 : decode cX1_copy 29 = .ok (.aload_n 0, 1) := by decide +kernel
theorem dX1_copy_30 : decode cX1_copy 30 = .ok (.getfield 15, 3) := by decide +kernel
theorem dX1_copy_33 : decode cX1_copy 33 = .ok (.iconst 0, 1) := by decide +kernel
theorem dX1_copy_34 : decode cX1_copy 34 = .ok (.sipush 400, 3) := by decide +kernel
theorem dX1_copy_37 : decode cX1_copy 37 = .ok (.invokestatic 46, 3) := by decide +kernel
theorem dX1_copy_40 : decode cX1_copy 40 = .ok (.aload_n 1, 1) := by decide +kernel
theorem dX1_copy_41 : decode cX1_copy 41 = .ok (.getfield 18, 3) := by decide +kernel
theorem dX1_copy_44 : decode cX1_copy 44 = .ok (.iconst 0, 1) := by decide +kernel
theorem dX1_copy_45 : decode cX1_copy 45 = .ok (.aload_n 0, 1) := by decide +kernel
theorem dX1_copy_46 : decode cX1_copy 46 = .ok (.getfield 18, 3) := by decide +kernel
theorem dX1_copy_49 : decode cX1_copy 49 = .ok (.iconst 0, 1) := by decide +kernel
theorem dX1_copy_50 : decode cX1_copy 50 = .ok (.bipush 6, 2) := by decide +kernel
theorem dX1_copy_52 : decode cX1_copy 52 = .ok (.invokestatic 46, 3) := by decide +kernel
theorem dX1_copy_55 : decode cX1_copy 55 = .ok (.aload_n 1, 1) := by decide +kernel
theorem dX1_copy_56 : decode cX1_copy 56 = .ok (.getfield 21, 3) := by decide +kernel
theorem dX1_copy_59 : decode cX1_copy 59 = .ok (.iconst 0, 1) := by decide +kernel
theorem dX1_copy_60 : decode cX1_copy 60 = .ok (.aload_n 0, 1) := by decide +kernel
theorem dX1_copy_61 : decode cX1_copy 61 = .ok (.getfield 21, 3) := by decide +kernel
theorem dX1_copy_64 : decode cX1_copy 64 = .ok (.iconst 0, 1) := by decide +kernel
theorem dX1_copy_65 : decode cX1_copy 65 = .ok (.sipush 600, 3) := by decide +kernel
theorem dX1_copy_68 : decode cX1_copy 68 = .ok (.invokestatic 46, 3) := by decide +kernel
theorem dX1_copy_71 : decode cX1_copy 71 = .ok (.aload_n 1, 1) := by decide +kernel
theorem dX1_copy_72 : decode cX1_copy 72 = .ok (.getfield 24, 3) := by decide +kernel
theorem dX1_copy_75 : decode cX1_copy 75 = .ok (.iconst 0, 1) := by decide +kernel
theorem dX1_copy_76 : decode cX1_copy 76 = .ok (.aload_n 0, 1) := by decide +kernel
theorem dX1_copy_77 : decode cX1_copy 77 = .ok (.getfield 24, 3) := by decide +kernel
theorem dX1_copy_80 : decode cX1_copy 80 = .ok (.iconst 0, 1) := by decide +kernel
theorem dX1_copy_81 : decode cX1_copy 81 = .ok (.bipush 6, 2) := by decide +kernel
theorem dX1_copy_83 : decode cX1_copy 83 = .ok (.invokestatic 46, 3) := by decide +kernel
theorem dX1_copy_86 : decode cX1_copy 86 = .ok (.aload_n 1, 1) := by decide +kernel
theorem dX1_copy_87 : decode cX1_copy 87 = .ok (.getfield 27, 3) := by decide +kernel
theorem dX1_copy_90 : decode cX1_copy 90 = .ok (.iconst 0, 1) := by decide +kernel
theorem dX1_copy_91 : decode cX1_copy 91 = .ok (.aload_n 0, 1) := by decide +kernel
theorem dX1_copy_92 : decode cX1_copy 92 = .ok (.getfield 27, 3) := by decide +kernel
theorem dX1_copy_95 : decode cX1_copy 95 = .ok (.iconst 0, 1) := by decide +kernel
theorem dX1_copy_96 : decode cX1_copy 96 = .ok (.bipush 72, 2) := by decide +kernel
theorem dX1_copy_98 : decode cX1_copy 98 = .ok (.invokestatic 46, 3) := by decide +kernel
theorem dX1_copy_101 : decode cX1_copy 101 = .ok (.aload_n 1, 1) := by decide +kernel
theorem dX1_copy_102 : decode cX1_copy 102 = .ok (.getfield 30, 3) := by decide +kernel
theorem dX1_copy_105 : decode cX1_copy 105 = .ok (.iconst 0, 1) := by decide +kernel
theorem dX1_copy_106 : decode cX1_copy 106 = .ok (.aload_n 0, 1) := by decide +kernel
theorem dX1_copy_107 : decode cX1_copy 107 = .ok (.getfield 30, 3) := by decide +kernel
theorem dX1_copy_110 : decode cX1_copy 110 = .ok (.iconst 0, 1) := by decide +kernel
theorem dX1_copy_111 : decode cX1_copy 111 = .ok (.bipush 100, 2) := by decide +kernel
theorem dX1_copy_113 : decode cX1_copy 113 = .ok (.invokestatic 46, 3) := by decide +kernel
theorem dX1_copy_116 : decode cX1_copy 116 = .ok (.aload_n 1, 1) := by decide +kernel
theorem dX1_copy_117 : decode cX1_copy 117 = .ok (.getfield 33, 3) := by decide +kernel
theorem dX1_copy_120 : decode cX1_copy 120 = .ok (.iconst 0, 1) := by decide +kernel
theorem dX1_copy_121 : decode cX1_copy 121 = .ok (.aload_n 0, 1) := by decide +kernel
theorem dX1_copy_122 : decode cX1_copy 122 = .ok (.getfield 33, 3) := by decide +kernel
theorem dX1_copy_125 : decode cX1_copy 125 = .ok (.iconst 0, 1) := by decide +kernel
theorem dX1_copy_126 : decode cX1_copy 126 = .ok (.iconst 4, 1) := by decide +kernel
theorem dX1_copy_127 : decode cX1_copy 127 = .ok (.invokestatic 46, 3) := by decide +kernel
theorem dX1_copy_130 : decode cX1_copy 130 = .ok (.return_, 1) := by decide +kernel
theorem dX1_refused_0 : decode cX1_refused 0 = .ok (.aload_n 0, 1) := by decide +kernel
theorem dX1_refused_1 : decode cX1_refused 1 = .ok (.getfield 33, 3) := by decide +kernel
theorem dX1_refused_4 : decode cX1_refused 4 = .ok (.iload_n 1, 1) := by decide +kernel
theorem dX1_refused_5 : decode cX1_refused 5 = .ok (.invokestatic 52, 3) := by decide +kernel
theorem dX1_refused_8 : decode cX1_refused 8 = .ok (.ireturn, 1) := by decide +kernel
theorem dX1_refuse_0 : decode cX1_refuse 0 = .ok (.aload_n 0, 1) := by decide +kernel
theorem dX1_refuse_1 : decode cX1_refuse 1 = .ok (.getfield 33, 3) := by decide +kernel
theorem dX1_refuse_4 : decode cX1_refuse 4 = .ok (.iload_n 1, 1) := by decide +kernel
theorem dX1_refuse_5 : decode cX1_refuse 5 = .ok (.aload_n 0, 1) := by decide +kernel
theorem dX1_refuse_6 : decode cX1_refuse 6 = .ok (.getfield 33, 3) := by decide +kernel
theorem dX1_refuse_9 : decode cX1_refuse 9 = .ok (.iload_n 1, 1) := by decide +kernel
theorem dX1_refuse_10 : decode cX1_refuse 10 = .ok (.invokestatic 52, 3) := by decide +kernel
theorem dX1_refuse_13 : decode cX1_refuse 13 = .ok (.iconst 1, 1) := by decide +kernel
theorem dX1_refuse_14 : decode cX1_refuse 14 = .ok (.iadd, 1) := by decide +kernel
theorem dX1_refuse_15 : decode cX1_refuse 15 = .ok (.invokestatic 56, 3) := by decide +kernel
theorem dX1_refuse_18 : decode cX1_refuse 18 = .ok (.return_, 1) := by decide +kernel
theorem dX1_bookIsFull_0 : decode cX1_bookIsFull 0 = .ok (.aload_n 0, 1) := by decide +kernel
theorem dX1_bookIsFull_1 : decode cX1_bookIsFull 1 = .ok (.getfield 42, 3) := by decide +kernel
theorem dX1_bookIsFull_4 : decode cX1_bookIsFull 4 = .ok (.sipush 400, 3) := by decide +kernel
theorem dX1_bookIsFull_7 : decode cX1_bookIsFull 7 = .ok (.if_icmp .lt 7, 3) := by decide +kernel
theorem dX1_bookIsFull_10 : decode cX1_bookIsFull 10 = .ok (.iconst 1, 1) := by decide +kernel
theorem dX1_bookIsFull_11 : decode cX1_bookIsFull 11 = .ok (.goto 4, 3) := by decide +kernel
theorem dX1_bookIsFull_14 : decode cX1_bookIsFull 14 = .ok (.iconst 0, 1) := by decide +kernel
theorem dX1_bookIsFull_15 : decode cX1_bookIsFull 15 = .ok (.ireturn, 1) := by decide +kernel
theorem dX1_enter_0 : decode cX1_enter 0 = .ok (.aload_n 0, 1) := by decide +kernel
theorem dX1_enter_1 : decode cX1_enter 1 = .ok (.getfield 9, 3) := by decide +kernel
theorem dX1_enter_4 : decode cX1_enter 4 = .ok (.aload_n 0, 1) := by decide +kernel
theorem dX1_enter_5 : decode cX1_enter 5 = .ok (.getfield 42, 3) := by decide +kernel
theorem dX1_enter_8 : decode cX1_enter 8 = .ok (.iload_n 1, 1) := by decide +kernel
theorem dX1_enter_9 : decode cX1_enter 9 = .ok (.invokestatic 56, 3) := by decide +kernel
theorem dX1_enter_12 : decode cX1_enter 12 = .ok (.aload_n 0, 1) := by decide +kernel
theorem dX1_enter_13 : decode cX1_enter 13 = .ok (.getfield 15, 3) := by decide +kernel
theorem dX1_enter_16 : decode cX1_enter 16 = .ok (.aload_n 0, 1) := by decide +kernel
theorem dX1_enter_17 : decode cX1_enter 17 = .ok (.getfield 42, 3) := by decide +kernel
theorem dX1_enter_20 : decode cX1_enter 20 = .ok (.iload_n 2, 1) := by decide +kernel
theorem dX1_enter_21 : decode cX1_enter 21 = .ok (.invokestatic 56, 3) := by decide +kernel
theorem dX1_enter_24 : decode cX1_enter 24 = .ok (.aload_n 0, 1) := by decide +kernel
theorem dX1_enter_25 : decode cX1_enter 25 = .ok (.dup, 1) := by decide +kernel
theorem dX1_enter_26 : decode cX1_enter 26 = .ok (.getfield 42, 3) := by decide +kernel
theorem dX1_enter_29 : decode cX1_enter 29 = .ok (.iconst 1, 1) := by decide +kernel
theorem dX1_enter_30 : decode cX1_enter 30 = .ok (.iadd, 1) := by decide +kernel
theorem dX1_enter_31 : decode cX1_enter 31 = .ok (.putfield 42, 3) := by decide +kernel
theorem dX1_enter_34 : decode cX1_enter 34 = .ok (.return_, 1) := by decide +kernel
theorem dX1_bookWork_0 : decode cX1_bookWork 0 = .ok (.aload_n 0, 1) := by decide +kernel
theorem dX1_bookWork_1 : decode cX1_bookWork 1 = .ok (.getfield 9, 3) := by decide +kernel
theorem dX1_bookWork_4 : decode cX1_bookWork 4 = .ok (.iload_n 1, 1) := by decide +kernel
theorem dX1_bookWork_5 : decode cX1_bookWork 5 = .ok (.invokestatic 52, 3) := by decide +kernel
theorem dX1_bookWork_8 : decode cX1_bookWork 8 = .ok (.ireturn, 1) := by decide +kernel
theorem dX1_bookWay_0 : decode cX1_bookWay 0 = .ok (.aload_n 0, 1) := by decide +kernel
theorem dX1_bookWay_1 : decode cX1_bookWay 1 = .ok (.getfield 15, 3) := by decide +kernel
theorem dX1_bookWay_4 : decode cX1_bookWay 4 = .ok (.iload_n 1, 1) := by decide +kernel
theorem dX1_bookWay_5 : decode cX1_bookWay 5 = .ok (.invokestatic 52, 3) := by decide +kernel
theorem dX1_bookWay_8 : decode cX1_bookWay 8 = .ok (.ireturn, 1) := by decide +kernel
theorem dX1_bookedOf_0 : decode cX1_bookedOf 0 = .ok (.iconst 0, 1) := by decide +kernel
theorem dX1_bookedOf_1 : decode cX1_bookedOf 1 = .ok (.istore_n 2, 1) := by decide +kernel
theorem dX1_bookedOf_2 : decode cX1_bookedOf 2 = .ok (.iconst 0, 1) := by decide +kernel
theorem dX1_bookedOf_3 : decode cX1_bookedOf 3 = .ok (.istore_n 3, 1) := by decide +kernel
theorem dX1_bookedOf_4 : decode cX1_bookedOf 4 = .ok (.iload_n 3, 1) := by decide +kernel
theorem dX1_bookedOf_5 : decode cX1_bookedOf 5 = .ok (.aload_n 0, 1) := by decide +kernel
theorem dX1_bookedOf_6 : decode cX1_bookedOf 6 = .ok (.getfield 42, 3) := by decide +kernel
theorem dX1_bookedOf_9 : decode cX1_bookedOf 9 = .ok (.if_icmp .ge 21, 3) := by decide +kernel
theorem dX1_bookedOf_12 : decode cX1_bookedOf 12 = .ok (.aload_n 0, 1) := by decide +kernel
theorem dX1_bookedOf_13 : decode cX1_bookedOf 13 = .ok (.iload_n 3, 1) := by decide +kernel
theorem dX1_bookedOf_14 : decode cX1_bookedOf 14 = .ok (.invokevirtual 60, 3) := by decide +kernel
theorem dX1_bookedOf_17 : decode cX1_bookedOf 17 = .ok (.iload_n 1, 1) := by decide +kernel
theorem dX1_bookedOf_18 : decode cX1_bookedOf 18 = .ok (.if_icmp .ne 6, 3) := by decide +kernel
theorem dX1_bookedOf_21 : decode cX1_bookedOf 21 = .ok (.iinc 2 1, 3) := by decide +kernel
theorem dX1_bookedOf_24 : decode cX1_bookedOf 24 = .ok (.iinc 3 1, 3) := by decide +kernel
theorem dX1_bookedOf_27 : decode cX1_bookedOf 27 = .ok (.goto (-23), 3) := by decide +kernel
theorem dX1_bookedOf_30 : decode cX1_bookedOf 30 = .ok (.iload_n 2, 1) := by decide +kernel
theorem dX1_bookedOf_31 : decode cX1_bookedOf 31 = .ok (.ireturn, 1) := by decide +kernel
theorem dX1_toldOf_0 : decode cX1_toldOf 0 = .ok (.aload_n 0, 1) := by decide +kernel
theorem dX1_toldOf_1 : decode cX1_toldOf 1 = .ok (.getfield 18, 3) := by decide +kernel
theorem dX1_toldOf_4 : decode cX1_toldOf 4 = .ok (.iload_n 1, 1) := by decide +kernel
theorem dX1_toldOf_5 : decode cX1_toldOf 5 = .ok (.invokestatic 52, 3) := by decide +kernel
theorem dX1_toldOf_8 : decode cX1_toldOf 8 = .ok (.ireturn, 1) := by decide +kernel
theorem dX1_toldAt_0 : decode cX1_toldAt 0 = .ok (.aload_n 0, 1) := by decide +kernel
theorem dX1_toldAt_1 : decode cX1_toldAt 1 = .ok (.getfield 21, 3) := by decide +kernel
theorem dX1_toldAt_4 : decode cX1_toldAt 4 = .ok (.iload_n 1, 1) := by decide +kernel
theorem dX1_toldAt_5 : decode cX1_toldAt 5 = .ok (.bipush 100, 2) := by decide +kernel
theorem dX1_toldAt_7 : decode cX1_toldAt 7 = .ok (.imul, 1) := by decide +kernel
theorem dX1_toldAt_8 : decode cX1_toldAt 8 = .ok (.iload_n 2, 1) := by decide +kernel
theorem dX1_toldAt_9 : decode cX1_toldAt 9 = .ok (.iadd, 1) := by decide +kernel
theorem dX1_toldAt_10 : decode cX1_toldAt 10 = .ok (.invokestatic 52, 3) := by decide +kernel
theorem dX1_toldAt_13 : decode cX1_toldAt 13 = .ok (.ireturn, 1) := by decide +kernel
theorem dX1_addTold_0 : decode cX1_addTold 0 = .ok (.aload_n 0, 1) := by decide +kernel
theorem dX1_addTold_1 : decode cX1_addTold 1 = .ok (.iload_n 1, 1) := by decide +kernel
theorem dX1_addTold_2 : decode cX1_addTold 2 = .ok (.invokevirtual 64, 3) := by decide +kernel
theorem dX1_addTold_5 : decode cX1_addTold 5 = .ok (.istore_n 3, 1) := by decide +kernel
theorem dX1_addTold_6 : decode cX1_addTold 6 = .ok (.aload_n 0, 1) := by decide +kernel
theorem dX1_addTold_7 : decode cX1_addTold 7 = .ok (.getfield 21, 3) := by decide +kernel
theorem dX1_addTold_10 : decode cX1_addTold 10 = .ok (.iload_n 1, 1) := by decide +kernel
theorem dX1_addTold_11 : decode cX1_addTold 11 = .ok (.bipush 100, 2) := by decide +kernel
theorem dX1_addTold_13 : decode cX1_addTold 13 = .ok (.imul, 1) := by decide +kernel
theorem dX1_addTold_14 : decode cX1_addTold 14 = .ok (.iload_n 3, 1) := by decide +kernel
theorem dX1_addTold_15 : decode cX1_addTold 15 = .ok (.iadd, 1) := by decide +kernel
theorem dX1_addTold_16 : decode cX1_addTold 16 = .ok (.iload_n 2, 1) := by decide +kernel
theorem dX1_addTold_17 : decode cX1_addTold 17 = .ok (.invokestatic 56, 3) := by decide +kernel
theorem dX1_addTold_20 : decode cX1_addTold 20 = .ok (.aload_n 0, 1) := by decide +kernel
theorem dX1_addTold_21 : decode cX1_addTold 21 = .ok (.getfield 18, 3) := by decide +kernel
theorem dX1_addTold_24 : decode cX1_addTold 24 = .ok (.iload_n 1, 1) := by decide +kernel
theorem dX1_addTold_25 : decode cX1_addTold 25 = .ok (.iload_n 3, 1) := by decide +kernel
theorem dX1_addTold_26 : decode cX1_addTold 26 = .ok (.iconst 1, 1) := by decide +kernel
theorem dX1_addTold_27 : decode cX1_addTold 27 = .ok (.iadd, 1) := by decide +kernel
theorem dX1_addTold_28 : decode cX1_addTold 28 = .ok (.invokestatic 56, 3) := by decide +kernel
theorem dX1_addTold_31 : decode cX1_addTold 31 = .ok (.iload_n 3, 1) := by decide +kernel
theorem dX1_addTold_32 : decode cX1_addTold 32 = .ok (.iconst 1, 1) := by decide +kernel
theorem dX1_addTold_33 : decode cX1_addTold 33 = .ok (.iadd, 1) := by decide +kernel
theorem dX1_addTold_34 : decode cX1_addTold 34 = .ok (.ireturn, 1) := by decide +kernel
theorem dX1_peopleOf_0 : decode cX1_peopleOf 0 = .ok (.aload_n 0, 1) := by decide +kernel
theorem dX1_peopleOf_1 : decode cX1_peopleOf 1 = .ok (.getfield 24, 3) := by decide +kernel
theorem dX1_peopleOf_4 : decode cX1_peopleOf 4 = .ok (.iload_n 1, 1) := by decide +kernel
theorem dX1_peopleOf_5 : decode cX1_peopleOf 5 = .ok (.invokestatic 52, 3) := by decide +kernel
theorem dX1_peopleOf_8 : decode cX1_peopleOf 8 = .ok (.ireturn, 1) := by decide +kernel
theorem dX1_givesAt_0 : decode cX1_givesAt 0 = .ok (.aload_n 0, 1) := by decide +kernel
theorem dX1_givesAt_1 : decode cX1_givesAt 1 = .ok (.getfield 27, 3) := by decide +kernel
theorem dX1_givesAt_4 : decode cX1_givesAt 4 = .ok (.iload_n 1, 1) := by decide +kernel
theorem dX1_givesAt_5 : decode cX1_givesAt 5 = .ok (.bipush 12, 2) := by decide +kernel
theorem dX1_givesAt_7 : decode cX1_givesAt 7 = .ok (.imul, 1) := by decide +kernel
theorem dX1_givesAt_8 : decode cX1_givesAt 8 = .ok (.iload_n 2, 1) := by decide +kernel
theorem dX1_givesAt_9 : decode cX1_givesAt 9 = .ok (.iadd, 1) := by decide +kernel
theorem dX1_givesAt_10 : decode cX1_givesAt 10 = .ok (.invokestatic 52, 3) := by decide +kernel
theorem dX1_givesAt_13 : decode cX1_givesAt 13 = .ok (.ireturn, 1) := by decide +kernel
theorem dX1_addPerson_0 : decode cX1_addPerson 0 = .ok (.aload_n 0, 1) := by decide +kernel
theorem dX1_addPerson_1 : decode cX1_addPerson 1 = .ok (.iload_n 1, 1) := by decide +kernel
theorem dX1_addPerson_2 : decode cX1_addPerson 2 = .ok (.invokevirtual 67, 3) := by decide +kernel
theorem dX1_addPerson_5 : decode cX1_addPerson 5 = .ok (.istore_n 3, 1) := by decide +kernel
theorem dX1_addPerson_6 : decode cX1_addPerson 6 = .ok (.aload_n 0, 1) := by decide +kernel
theorem dX1_addPerson_7 : decode cX1_addPerson 7 = .ok (.getfield 27, 3) := by decide +kernel
theorem dX1_addPerson_10 : decode cX1_addPerson 10 = .ok (.iload_n 1, 1) := by decide +kernel
theorem dX1_addPerson_11 : decode cX1_addPerson 11 = .ok (.bipush 12, 2) := by decide +kernel
theorem dX1_addPerson_13 : decode cX1_addPerson 13 = .ok (.imul, 1) := by decide +kernel
theorem dX1_addPerson_14 : decode cX1_addPerson 14 = .ok (.iload_n 3, 1) := by decide +kernel
theorem dX1_addPerson_15 : decode cX1_addPerson 15 = .ok (.iadd, 1) := by decide +kernel
theorem dX1_addPerson_16 : decode cX1_addPerson 16 = .ok (.iload_n 2, 1) := by decide +kernel
theorem dX1_addPerson_17 : decode cX1_addPerson 17 = .ok (.invokestatic 56, 3) := by decide +kernel
theorem dX1_addPerson_20 : decode cX1_addPerson 20 = .ok (.aload_n 0, 1) := by decide +kernel
theorem dX1_addPerson_21 : decode cX1_addPerson 21 = .ok (.getfield 24, 3) := by decide +kernel
theorem dX1_addPerson_24 : decode cX1_addPerson 24 = .ok (.iload_n 1, 1) := by decide +kernel
theorem dX1_addPerson_25 : decode cX1_addPerson 25 = .ok (.iload_n 3, 1) := by decide +kernel
theorem dX1_addPerson_26 : decode cX1_addPerson 26 = .ok (.iconst 1, 1) := by decide +kernel
theorem dX1_addPerson_27 : decode cX1_addPerson 27 = .ok (.iadd, 1) := by decide +kernel
theorem dX1_addPerson_28 : decode cX1_addPerson 28 = .ok (.invokestatic 56, 3) := by decide +kernel
theorem dX1_addPerson_31 : decode cX1_addPerson 31 = .ok (.iload_n 3, 1) := by decide +kernel
theorem dX1_addPerson_32 : decode cX1_addPerson 32 = .ok (.iconst 1, 1) := by decide +kernel
theorem dX1_addPerson_33 : decode cX1_addPerson 33 = .ok (.iadd, 1) := by decide +kernel
theorem dX1_addPerson_34 : decode cX1_addPerson 34 = .ok (.ireturn, 1) := by decide +kernel
theorem dX1_weightOf_0 : decode cX1_weightOf 0 = .ok (.aload_n 0, 1) := by decide +kernel
theorem dX1_weightOf_1 : decode cX1_weightOf 1 = .ok (.getfield 30, 3) := by decide +kernel
theorem dX1_weightOf_4 : decode cX1_weightOf 4 = .ok (.iload_n 1, 1) := by decide +kernel
theorem dX1_weightOf_5 : decode cX1_weightOf 5 = .ok (.invokestatic 52, 3) := by decide +kernel
theorem dX1_weightOf_8 : decode cX1_weightOf 8 = .ok (.ireturn, 1) := by decide +kernel
theorem dX1_setWeight_0 : decode cX1_setWeight 0 = .ok (.aload_n 0, 1) := by decide +kernel
theorem dX1_setWeight_1 : decode cX1_setWeight 1 = .ok (.getfield 30, 3) := by decide +kernel
theorem dX1_setWeight_4 : decode cX1_setWeight 4 = .ok (.iload_n 1, 1) := by decide +kernel
theorem dX1_setWeight_5 : decode cX1_setWeight 5 = .ok (.iload_n 2, 1) := by decide +kernel
theorem dX1_setWeight_6 : decode cX1_setWeight 6 = .ok (.invokestatic 56, 3) := by decide +kernel
theorem dX1_setWeight_9 : decode cX1_setWeight 9 = .ok (.return_, 1) := by decide +kernel
theorem dX2_init_0 : decode cX2_init 0 = .ok (.aload_n 0, 1) := by decide +kernel
theorem dX2_init_1 : decode cX2_init 1 = .ok (.invokespecial 3, 3) := by decide +kernel
theorem dX2_init_4 : decode cX2_init 4 = .ok (.aload_n 0, 1) := by decide +kernel
theorem dX2_init_5 : decode cX2_init 5 = .ok (.bipush 12, 2) := by decide +kernel
theorem dX2_init_7 : decode cX2_init 7 = .ok (.newarray .int, 2) := by decide +kernel
theorem dX2_init_9 : decode cX2_init 9 = .ok (.putfield 9, 3) := by decide +kernel
theorem dX2_init_12 : decode cX2_init 12 = .ok (.return_, 1) := by decide +kernel
theorem dX2_line_0 : decode cX2_line 0 = .ok (.aload_n 0, 1) := by decide +kernel
theorem dX2_line_1 : decode cX2_line 1 = .ok (.aload_n 1, 1) := by decide +kernel
theorem dX2_line_2 : decode cX2_line 2 = .ok (.iload_n 2, 1) := by decide +kernel
theorem dX2_line_3 : decode cX2_line 3 = .ok (.invokevirtual 15, 3) := by decide +kernel
theorem dX2_line_6 : decode cX2_line 6 = .ok (.bipush 12, 2) := by decide +kernel
theorem dX2_line_8 : decode cX2_line 8 = .ok (.invokestatic 21, 3) := by decide +kernel
theorem dX2_line_11 : decode cX2_line 11 = .ok (.putfield 27, 3) := by decide +kernel
theorem dX2_line_14 : decode cX2_line 14 = .ok (.iconst 0, 1) := by decide +kernel
theorem dX2_line_15 : decode cX2_line 15 = .ok (.istore_n 3, 1) := by decide +kernel
theorem dX2_line_16 : decode cX2_line 16 = .ok (.iload_n 3, 1) := by decide +kernel
theorem dX2_line_17 : decode cX2_line 17 = .ok (.aload_n 0, 1) := by decide +kernel
theorem dX2_line_18 : decode cX2_line 18 = .ok (.getfield 27, 3) := by decide +kernel
theorem dX2_line_21 : decode cX2_line 21 = .ok (.if_icmp .ge 78, 3) := by decide +kernel
theorem dX2_line_24 : decode cX2_line 24 = .ok (.aload_n 1, 1) := by decide +kernel
theorem dX2_line_25 : decode cX2_line 25 = .ok (.iload_n 2, 1) := by decide +kernel
theorem dX2_line_26 : decode cX2_line 26 = .ok (.iload_n 3, 1) := by decide +kernel
theorem dX2_line_27 : decode cX2_line 27 = .ok (.invokevirtual 31, 3) := by decide +kernel
theorem dX2_line_30 : decode cX2_line 30 = .ok (.istore 4, 2) := by decide +kernel
theorem dX2_line_32 : decode cX2_line 32 = .ok (.iload_n 3, 1) := by decide +kernel
theorem dX2_line_33 : decode cX2_line 33 = .ok (.istore 5, 2) := by decide +kernel
theorem dX2_line_35 : decode cX2_line 35 = .ok (.iload 5, 2) := by decide +kernel
theorem dX2_line_37 : decode cX2_line 37 = .ok (.ifCond .le 45, 3) := by decide +kernel
theorem dX2_line_40 : decode cX2_line 40 = .ok (.aload_n 0, 1) := by decide +kernel
theorem dX2_line_41 : decode cX2_line 41 = .ok (.getfield 9, 3) := by decide +kernel
theorem dX2_line_44 : decode cX2_line 44 = .ok (.iload 5, 2) := by decide +kernel
theorem dX2_line_46 : decode cX2_line 46 = .ok (.iconst 1, 1) := by decide +kernel
theorem dX2_line_47 : decode cX2_line 47 = .ok (.isub, 1) := by decide +kernel
theorem dX2_line_48 : decode cX2_line 48 = .ok (.invokestatic 34, 3) := by decide +kernel
theorem dX2_line_51 : decode cX2_line 51 = .ok (.iload 4, 2) := by decide +kernel
theorem dX2_line_53 : decode cX2_line 53 = .ok (.if_icmp .ge 29, 3) := by decide +kernel
theorem dX2_line_56 : decode cX2_line 56 = .ok (.aload_n 0, 1) := by decide +kernel
theorem dX2_line_57 : decode cX2_line 57 = .ok (.getfield 9, 3) := by decide +kernel
theorem dX2_line_60 : decode cX2_line 60 = .ok (.iload 5, 2) := by decide +kernel
theorem dX2_line_62 : decode cX2_line 62 = .ok (.aload_n 0, 1) := by decide +kernel
theorem dX2_line_63 : decode cX2_line 63 = .ok (.getfield 9, 3) := by decide +kernel
theorem dX2_line_66 : decode cX2_line 66 = .ok (.iload 5, 2) := by decide +kernel
theorem dX2_line_68 : decode cX2_line 68 = .ok (.iconst 1, 1) := by decide +kernel
theorem dX2_line_69 : decode cX2_line 69 = .ok (.isub, 1) := by decide +kernel
theorem dX2_line_70 : decode cX2_line 70 = .ok (.invokestatic 34, 3) := by decide +kernel
theorem dX2_line_73 : decode cX2_line 73 = .ok (.invokestatic 38, 3) := by decide +kernel
theorem dX2_line_76 : decode cX2_line 76 = .ok (.iinc 5 (-1), 3) := by decide +kernel
theorem dX2_line_79 : decode cX2_line 79 = .ok (.goto (-44), 3) := by decide +kernel
theorem dX2_line_82 : decode cX2_line 82 = .ok (.aload_n 0, 1) := by decide +kernel
theorem dX2_line_83 : decode cX2_line 83 = .ok (.getfield 9, 3) := by decide +kernel
theorem dX2_line_86 : decode cX2_line 86 = .ok (.iload 5, 2) := by decide +kernel
theorem dX2_line_88 : decode cX2_line 88 = .ok (.iload 4, 2) := by decide +kernel
theorem dX2_line_90 : decode cX2_line 90 = .ok (.invokestatic 38, 3) := by decide +kernel
theorem dX2_line_93 : decode cX2_line 93 = .ok (.iinc 3 1, 3) := by decide +kernel
theorem dX2_line_96 : decode cX2_line 96 = .ok (.goto (-80), 3) := by decide +kernel
theorem dX2_line_99 : decode cX2_line 99 = .ok (.return_, 1) := by decide +kernel
theorem dX2_settle_0 : decode cX2_settle 0 = .ok (.aload_n 0, 1) := by decide +kernel
theorem dX2_settle_1 : decode cX2_settle 1 = .ok (.iconst 0, 1) := by decide +kernel
theorem dX2_settle_2 : decode cX2_settle 2 = .ok (.putfield 42, 3) := by decide +kernel
theorem dX2_settle_5 : decode cX2_settle 5 = .ok (.aload_n 0, 1) := by decide +kernel
theorem dX2_settle_6 : decode cX2_settle 6 = .ok (.iconst 0, 1) := by decide +kernel
theorem dX2_settle_7 : decode cX2_settle 7 = .ok (.putfield 45, 3) := by decide +kernel
theorem dX2_settle_10 : decode cX2_settle 10 = .ok (.iconst 0, 1) := by decide +kernel
theorem dX2_settle_11 : decode cX2_settle 11 = .ok (.istore_n 2, 1) := by decide +kernel
theorem dX2_settle_12 : decode cX2_settle 12 = .ok (.aload_n 1, 1) := by decide +kernel
theorem dX2_settle_13 : decode cX2_settle 13 = .ok (.iconst 0, 1) := by decide +kernel
theorem dX2_settle_14 : decode cX2_settle 14 = .ok (.invokevirtual 48, 3) := by decide +kernel
theorem dX2_settle_17 : decode cX2_settle 17 = .ok (.istore_n 3, 1) := by decide +kernel
theorem dX2_settle_18 : decode cX2_settle 18 = .ok (.aload_n 0, 1) := by decide +kernel
theorem dX2_settle_19 : decode cX2_settle 19 = .ok (.getfield 45, 3) := by decide +kernel
theorem dX2_settle_22 : decode cX2_settle 22 = .ok (.aload_n 0, 1) := by decide +kernel
theorem dX2_settle_23 : decode cX2_settle 23 = .ok (.getfield 27, 3) := by decide +kernel
theorem dX2_settle_26 : decode cX2_settle 26 = .ok (.if_icmp .ge 76, 3) := by decide +kernel
theorem dX2_settle_29 : decode cX2_settle 29 = .ok (.iload_n 3, 1) := by decide +kernel
theorem dX2_settle_30 : decode cX2_settle 30 = .ok (.iconst (-1), 1) := by decide +kernel
theorem dX2_settle_31 : decode cX2_settle 31 = .ok (.if_icmp .eq 71, 3) := by decide +kernel
theorem dX2_settle_34 : decode cX2_settle 34 = .ok (.aload_n 0, 1) := by decide +kernel
theorem dX2_settle_35 : decode cX2_settle 35 = .ok (.getfield 9, 3) := by decide +kernel
theorem dX2_settle_38 : decode cX2_settle 38 = .ok (.aload_n 0, 1) := by decide +kernel
theorem dX2_settle_39 : decode cX2_settle 39 = .ok (.getfield 45, 3) := by decide +kernel
theorem dX2_settle_42 : decode cX2_settle 42 = .ok (.invokestatic 34, 3) := by decide +kernel
theorem dX2_settle_45 : decode cX2_settle 45 = .ok (.aload_n 1, 1) := by decide +kernel
theorem dX2_settle_46 : decode cX2_settle 46 = .ok (.iload_n 3, 1) := by decide +kernel
theorem dX2_settle_47 : decode cX2_settle 47 = .ok (.invokevirtual 53, 3) := by decide +kernel
theorem dX2_settle_50 : decode cX2_settle 50 = .ok (.if_icmp .le 52, 3) := by decide +kernel
theorem dX2_settle_53 : decode cX2_settle 53 = .ok (.aload_n 1, 1) := by decide +kernel
theorem dX2_settle_54 : decode cX2_settle 54 = .ok (.iload_n 3, 1) := by decide +kernel
theorem dX2_settle_55 : decode cX2_settle 55 = .ok (.invokevirtual 53, 3) := by decide +kernel
theorem dX2_settle_58 : decode cX2_settle 58 = .ok (.istore_n 2, 1) := by decide +kernel
theorem dX2_settle_59 : decode cX2_settle 59 = .ok (.aload_n 0, 1) := by decide +kernel
theorem dX2_settle_60 : decode cX2_settle 60 = .ok (.dup, 1) := by decide +kernel
theorem dX2_settle_61 : decode cX2_settle 61 = .ok (.getfield 42, 3) := by decide +kernel
theorem dX2_settle_64 : decode cX2_settle 64 = .ok (.aload_n 0, 1) := by decide +kernel
theorem dX2_settle_65 : decode cX2_settle 65 = .ok (.getfield 9, 3) := by decide +kernel
theorem dX2_settle_68 : decode cX2_settle 68 = .ok (.aload_n 0, 1) := by decide +kernel
theorem dX2_settle_69 : decode cX2_settle 69 = .ok (.getfield 45, 3) := by decide +kernel
theorem dX2_settle_72 : decode cX2_settle 72 = .ok (.invokestatic 34, 3) := by decide +kernel
theorem dX2_settle_75 : decode cX2_settle 75 = .ok (.iload_n 2, 1) := by decide +kernel
theorem dX2_settle_76 : decode cX2_settle 76 = .ok (.isub, 1) := by decide +kernel
theorem dX2_settle_77 : decode cX2_settle 77 = .ok (.iadd, 1) := by decide +kernel
theorem dX2_settle_78 : decode cX2_settle 78 = .ok (.putfield 42, 3) := by decide +kernel
theorem dX2_settle_81 : decode cX2_settle 81 = .ok (.aload_n 0, 1) := by decide +kernel
theorem dX2_settle_82 : decode cX2_settle 82 = .ok (.dup, 1) := by decide +kernel
theorem dX2_settle_83 : decode cX2_settle 83 = .ok (.getfield 45, 3) := by decide +kernel
theorem dX2_settle_86 : decode cX2_settle 86 = .ok (.iconst 1, 1) := by decide +kernel
theorem dX2_settle_87 : decode cX2_settle 87 = .ok (.iadd, 1) := by decide +kernel
theorem dX2_settle_88 : decode cX2_settle 88 = .ok (.putfield 45, 3) := by decide +kernel
theorem dX2_settle_91 : decode cX2_settle 91 = .ok (.aload_n 1, 1) := by decide +kernel
theorem dX2_settle_92 : decode cX2_settle 92 = .ok (.iload_n 3, 1) := by decide +kernel
theorem dX2_settle_93 : decode cX2_settle 93 = .ok (.iconst 1, 1) := by decide +kernel
theorem dX2_settle_94 : decode cX2_settle 94 = .ok (.iadd, 1) := by decide +kernel
theorem dX2_settle_95 : decode cX2_settle 95 = .ok (.invokevirtual 48, 3) := by decide +kernel
theorem dX2_settle_98 : decode cX2_settle 98 = .ok (.istore_n 3, 1) := by decide +kernel
theorem dX2_settle_99 : decode cX2_settle 99 = .ok (.goto (-81), 3) := by decide +kernel
theorem dX2_settle_102 : decode cX2_settle 102 = .ok (.aload_n 0, 1) := by decide +kernel
theorem dX2_settle_103 : decode cX2_settle 103 = .ok (.aload_n 0, 1) := by decide +kernel
theorem dX2_settle_104 : decode cX2_settle 104 = .ok (.getfield 45, 3) := by decide +kernel
theorem dX2_settle_107 : decode cX2_settle 107 = .ok (.aload_n 0, 1) := by decide +kernel
theorem dX2_settle_108 : decode cX2_settle 108 = .ok (.getfield 27, 3) := by decide +kernel
theorem dX2_settle_111 : decode cX2_settle 111 = .ok (.if_icmp .ge 21, 3) := by decide +kernel
theorem dX2_settle_114 : decode cX2_settle 114 = .ok (.iload_n 2, 1) := by decide +kernel
theorem dX2_settle_115 : decode cX2_settle 115 = .ok (.aload_n 0, 1) := by decide +kernel
theorem dX2_settle_116 : decode cX2_settle 116 = .ok (.getfield 9, 3) := by decide +kernel
theorem dX2_settle_119 : decode cX2_settle 119 = .ok (.aload_n 0, 1) := by decide +kernel
theorem dX2_settle_120 : decode cX2_settle 120 = .ok (.getfield 45, 3) := by decide +kernel
theorem dX2_settle_123 : decode cX2_settle 123 = .ok (.invokestatic 34, 3) := by decide +kernel
theorem dX2_settle_126 : decode cX2_settle 126 = .ok (.invokestatic 56, 3) := by decide +kernel
theorem dX2_settle_129 : decode cX2_settle 129 = .ok (.goto 4, 3) := by decide +kernel
theorem dX2_settle_132 : decode cX2_settle 132 = .ok (.iload_n 2, 1) := by decide +kernel
theorem dX2_settle_133 : decode cX2_settle 133 = .ok (.putfield 59, 3) := by decide +kernel
theorem dX2_settle_136 : decode cX2_settle 136 = .ok (.aload_n 0, 1) := by decide +kernel
theorem dX2_settle_137 : decode cX2_settle 137 = .ok (.aload_n 0, 1) := by decide +kernel
theorem dX2_settle_138 : decode cX2_settle 138 = .ok (.getfield 45, 3) := by decide +kernel
theorem dX2_settle_141 : decode cX2_settle 141 = .ok (.ifCond .le 19, 3) := by decide +kernel
theorem dX2_settle_144 : decode cX2_settle 144 = .ok (.aload_n 0, 1) := by decide +kernel
theorem dX2_settle_145 : decode cX2_settle 145 = .ok (.getfield 9, 3) := by decide +kernel
theorem dX2_settle_148 : decode cX2_settle 148 = .ok (.aload_n 0, 1) := by decide +kernel
theorem dX2_settle_149 : decode cX2_settle 149 = .ok (.getfield 45, 3) := by decide +kernel
theorem dX2_settle_152 : decode cX2_settle 152 = .ok (.iconst 1, 1) := by decide +kernel
theorem dX2_settle_153 : decode cX2_settle 153 = .ok (.isub, 1) := by decide +kernel
theorem dX2_settle_154 : decode cX2_settle 154 = .ok (.invokestatic 34, 3) := by decide +kernel
theorem dX2_settle_157 : decode cX2_settle 157 = .ok (.goto 6, 3) := by decide +kernel
theorem dX2_settle_160 : decode cX2_settle 160 = .ok (.sipush 9999, 3) := by decide +kernel
theorem dX2_settle_163 : decode cX2_settle 163 = .ok (.putfield 62, 3) := by decide +kernel
theorem dX2_settle_166 : decode cX2_settle 166 = .ok (.iload_n 3, 1) := by decide +kernel
theorem dX2_settle_167 : decode cX2_settle 167 = .ok (.iconst (-1), 1) := by decide +kernel
theorem dX2_settle_168 : decode cX2_settle 168 = .ok (.if_icmp .eq 35, 3) := by decide +kernel
theorem dX2_settle_171 : decode cX2_settle 171 = .ok (.aload_n 1, 1) := by decide +kernel
theorem dX2_settle_172 : decode cX2_settle 172 = .ok (.iload_n 3, 1) := by decide +kernel
theorem dX2_settle_173 : decode cX2_settle 173 = .ok (.invokevirtual 53, 3) := by decide +kernel
theorem dX2_settle_176 : decode cX2_settle 176 = .ok (.istore 4, 2) := by decide +kernel
theorem dX2_settle_178 : decode cX2_settle 178 = .ok (.aload_n 0, 1) := by decide +kernel
theorem dX2_settle_179 : decode cX2_settle 179 = .ok (.aload_n 0, 1) := by decide +kernel
theorem dX2_settle_180 : decode cX2_settle 180 = .ok (.getfield 45, 3) := by decide +kernel
theorem dX2_settle_183 : decode cX2_settle 183 = .ok (.ifCond .le 15, 3) := by decide +kernel
theorem dX2_settle_186 : decode cX2_settle 186 = .ok (.aload_n 0, 1) := by decide +kernel
theorem dX2_settle_187 : decode cX2_settle 187 = .ok (.getfield 62, 3) := by decide +kernel
theorem dX2_settle_190 : decode cX2_settle 190 = .ok (.iload 4, 2) := by decide +kernel
theorem dX2_settle_192 : decode cX2_settle 192 = .ok (.invokestatic 21, 3) := by decide +kernel
theorem dX2_settle_195 : decode cX2_settle 195 = .ok (.goto 5, 3) := by decide +kernel
theorem dX2_settle_198 : decode cX2_settle 198 = .ok (.iload 4, 2) := by decide +kernel
theorem dX2_settle_200 : decode cX2_settle 200 = .ok (.putfield 62, 3) := by decide +kernel
theorem dX2_settle_203 : decode cX2_settle 203 = .ok (.return_, 1) := by decide +kernel
theorem dX3_init_0 : decode cX3_init 0 = .ok (.aload_n 0, 1) := by decide +kernel
theorem dX3_init_1 : decode cX3_init 1 = .ok (.invokespecial 3, 3) := by decide +kernel
theorem dX3_init_4 : decode cX3_init 4 = .ok (.aload_n 0, 1) := by decide +kernel
theorem dX3_init_5 : decode cX3_init 5 = .ok (.bipush 20, 2) := by decide +kernel
theorem dX3_init_7 : decode cX3_init 7 = .ok (.newarray .int, 2) := by decide +kernel
theorem dX3_init_9 : decode cX3_init 9 = .ok (.putfield 9, 3) := by decide +kernel
theorem dX3_init_12 : decode cX3_init 12 = .ok (.aload_n 0, 1) := by decide +kernel
theorem dX3_init_13 : decode cX3_init 13 = .ok (.bipush 20, 2) := by decide +kernel
theorem dX3_init_15 : decode cX3_init 15 = .ok (.newarray .int, 2) := by decide +kernel
theorem dX3_init_17 : decode cX3_init 17 = .ok (.putfield 15, 3) := by decide +kernel
theorem dX3_init_20 : decode cX3_init 20 = .ok (.aload_n 0, 1) := by decide +kernel
theorem dX3_init_21 : decode cX3_init 21 = .ok (.bipush 20, 2) := by decide +kernel
theorem dX3_init_23 : decode cX3_init 23 = .ok (.newarray .int, 2) := by decide +kernel
theorem dX3_init_25 : decode cX3_init 25 = .ok (.putfield 18, 3) := by decide +kernel
theorem dX3_init_28 : decode cX3_init 28 = .ok (.aload_n 0, 1) := by decide +kernel
theorem dX3_init_29 : decode cX3_init 29 = .ok (.bipush 12, 2) := by decide +kernel
theorem dX3_init_31 : decode cX3_init 31 = .ok (.newarray .int, 2) := by decide +kernel
theorem dX3_init_33 : decode cX3_init 33 = .ok (.putfield 21, 3) := by decide +kernel
theorem dX3_init_36 : decode cX3_init 36 = .ok (.aload_n 0, 1) := by decide +kernel
theorem dX3_init_37 : decode cX3_init 37 = .ok (.bipush 12, 2) := by decide +kernel
theorem dX3_init_39 : decode cX3_init 39 = .ok (.newarray .int, 2) := by decide +kernel
theorem dX3_init_41 : decode cX3_init 41 = .ok (.putfield 24, 3) := by decide +kernel
theorem dX3_init_44 : decode cX3_init 44 = .ok (.return_, 1) := by decide +kernel
theorem dX3_begin_0 : decode cX3_begin 0 = .ok (.aload_n 0, 1) := by decide +kernel
theorem dX3_begin_1 : decode cX3_begin 1 = .ok (.iload_n 1, 1) := by decide +kernel
theorem dX3_begin_2 : decode cX3_begin 2 = .ok (.putfield 27, 3) := by decide +kernel
theorem dX3_begin_5 : decode cX3_begin 5 = .ok (.aload_n 0, 1) := by decide +kernel
theorem dX3_begin_6 : decode cX3_begin 6 = .ok (.iconst 0, 1) := by decide +kernel
theorem dX3_begin_7 : decode cX3_begin 7 = .ok (.putfield 31, 3) := by decide +kernel
theorem dX3_begin_10 : decode cX3_begin 10 = .ok (.aload_n 0, 1) := by decide +kernel
theorem dX3_begin_11 : decode cX3_begin 11 = .ok (.iconst 0, 1) := by decide +kernel
theorem dX3_begin_12 : decode cX3_begin 12 = .ok (.putfield 34, 3) := by decide +kernel
theorem dX3_begin_15 : decode cX3_begin 15 = .ok (.aload_n 0, 1) := by decide +kernel
theorem dX3_begin_16 : decode cX3_begin 16 = .ok (.iconst 0, 1) := by decide +kernel
theorem dX3_begin_17 : decode cX3_begin 17 = .ok (.putfield 37, 3) := by decide +kernel
theorem dX3_begin_20 : decode cX3_begin 20 = .ok (.aload_n 0, 1) := by decide +kernel
theorem dX3_begin_21 : decode cX3_begin 21 = .ok (.iconst 0, 1) := by decide +kernel
theorem dX3_begin_22 : decode cX3_begin 22 = .ok (.putfield 40, 3) := by decide +kernel
theorem dX3_begin_25 : decode cX3_begin 25 = .ok (.aload_n 0, 1) := by decide +kernel
theorem dX3_begin_26 : decode cX3_begin 26 = .ok (.iconst 0, 1) := by decide +kernel
theorem dX3_begin_27 : decode cX3_begin 27 = .ok (.putfield 43, 3) := by decide +kernel
theorem dX3_begin_30 : decode cX3_begin 30 = .ok (.aload_n 0, 1) := by decide +kernel
theorem dX3_begin_31 : decode cX3_begin 31 = .ok (.iconst 0, 1) := by decide +kernel
theorem dX3_begin_32 : decode cX3_begin 32 = .ok (.putfield 46, 3) := by decide +kernel
theorem dX3_begin_35 : decode cX3_begin 35 = .ok (.aload_n 0, 1) := by decide +kernel
theorem dX3_begin_36 : decode cX3_begin 36 = .ok (.getfield 21, 3) := by decide +kernel
theorem dX3_begin_39 : decode cX3_begin 39 = .ok (.iconst 0, 1) := by decide +kernel
theorem dX3_begin_40 : decode cX3_begin 40 = .ok (.invokestatic 49, 3) := by decide +kernel
theorem dX3_begin_43 : decode cX3_begin 43 = .ok (.aload_n 0, 1) := by decide +kernel
theorem dX3_begin_44 : decode cX3_begin 44 = .ok (.getfield 24, 3) := by decide +kernel
theorem dX3_begin_47 : decode cX3_begin 47 = .ok (.iconst 0, 1) := by decide +kernel
theorem dX3_begin_48 : decode cX3_begin 48 = .ok (.invokestatic 49, 3) := by decide +kernel
theorem dX3_begin_51 : decode cX3_begin 51 = .ok (.return_, 1) := by decide +kernel
theorem dX3_mostItems_0 : decode cX3_mostItems 0 = .ok (.aload_n 0, 1) := by decide +kernel
theorem dX3_mostItems_1 : decode cX3_mostItems 1 = .ok (.getfield 27, 3) := by decide +kernel
theorem dX3_mostItems_4 : decode cX3_mostItems 4 = .ok (.ifCond .ne 8, 3) := by decide +kernel
theorem dX3_mostItems_7 : decode cX3_mostItems 7 = .ok (.bipush 20, 2) := by decide +kernel
theorem dX3_mostItems_9 : decode cX3_mostItems 9 = .ok (.goto 18, 3) := by decide +kernel
theorem dX3_mostItems_12 : decode cX3_mostItems 12 = .ok (.aload_n 0, 1) := by decide +kernel
theorem dX3_mostItems_13 : decode cX3_mostItems 13 = .ok (.getfield 27, 3) := by decide +kernel
theorem dX3_mostItems_16 : decode cX3_mostItems 16 = .ok (.iconst 1, 1) := by decide +kernel
theorem dX3_mostItems_17 : decode cX3_mostItems 17 = .ok (.if_icmp .ne 8, 3) := by decide +kernel
theorem dX3_mostItems_20 : decode cX3_mostItems 20 = .ok (.bipush 12, 2) := by decide +kernel
theorem dX3_mostItems_22 : decode cX3_mostItems 22 = .ok (.goto 5, 3) := by decide +kernel
theorem dX3_mostItems_25 : decode cX3_mostItems 25 = .ok (.bipush 6, 2) := by decide +kernel
theorem dX3_mostItems_27 : decode cX3_mostItems 27 = .ok (.ireturn, 1) := by decide +kernel
theorem dX3_addItem_0 : decode cX3_addItem 0 = .ok (.aload_n 0, 1) := by decide +kernel
theorem dX3_addItem_1 : decode cX3_addItem 1 = .ok (.getfield 15, 3) := by decide +kernel
theorem dX3_addItem_4 : decode cX3_addItem 4 = .ok (.aload_n 0, 1) := by decide +kernel
theorem dX3_addItem_5 : decode cX3_addItem 5 = .ok (.getfield 40, 3) := by decide +kernel
theorem dX3_addItem_8 : decode cX3_addItem 8 = .ok (.iload_n 1, 1) := by decide +kernel
theorem dX3_addItem_9 : decode cX3_addItem 9 = .ok (.invokestatic 55, 3) := by decide +kernel
theorem dX3_addItem_12 : decode cX3_addItem 12 = .ok (.aload_n 0, 1) := by decide +kernel
theorem dX3_addItem_13 : decode cX3_addItem 13 = .ok (.getfield 18, 3) := by decide +kernel
theorem dX3_addItem_16 : decode cX3_addItem 16 = .ok (.aload_n 0, 1) := by decide +kernel
theorem dX3_addItem_17 : decode cX3_addItem 17 = .ok (.getfield 40, 3) := by decide +kernel
theorem dX3_addItem_20 : decode cX3_addItem 20 = .ok (.iload_n 2, 1) := by decide +kernel
theorem dX3_addItem_21 : decode cX3_addItem 21 = .ok (.invokestatic 55, 3) := by decide +kernel
theorem dX3_addItem_24 : decode cX3_addItem 24 = .ok (.aload_n 0, 1) := by decide +kernel
theorem dX3_addItem_25 : decode cX3_addItem 25 = .ok (.getfield 9, 3) := by decide +kernel
theorem dX3_addItem_28 : decode cX3_addItem 28 = .ok (.aload_n 0, 1) := by decide +kernel
theorem dX3_addItem_29 : decode cX3_addItem 29 = .ok (.getfield 40, 3) := by decide +kernel
theorem dX3_addItem_32 : decode cX3_addItem 32 = .ok (.iload_n 3, 1) := by decide +kernel
theorem dX3_addItem_33 : decode cX3_addItem 33 = .ok (.invokestatic 55, 3) := by decide +kernel
theorem dX3_addItem_36 : decode cX3_addItem 36 = .ok (.iload 4, 2) := by decide +kernel
theorem dX3_addItem_38 : decode cX3_addItem 38 = .ok (.ifCond .eq 18, 3) := by decide +kernel
theorem dX3_addItem_41 : decode cX3_addItem 41 = .ok (.aload_n 0, 1) := by decide +kernel
theorem dX3_addItem_42 : decode cX3_addItem 42 = .ok (.dup, 1) := by decide +kernel
theorem dX3_addItem_43 : decode cX3_addItem 43 = .ok (.getfield 46, 3) := by decide +kernel
theorem dX3_addItem_46 : decode cX3_addItem 46 = .ok (.iconst 1, 1) := by decide +kernel
theorem dX3_addItem_47 : decode cX3_addItem 47 = .ok (.aload_n 0, 1) := by decide +kernel
theorem dX3_addItem_48 : decode cX3_addItem 48 = .ok (.getfield 40, 3) := by decide +kernel
theorem dX3_addItem_51 : decode cX3_addItem 51 = .ok (.ishl, 1) := by decide +kernel
theorem dX3_addItem_52 : decode cX3_addItem 52 = .ok (.ior, 1) := by decide +kernel
theorem dX3_addItem_53 : decode cX3_addItem 53 = .ok (.putfield 46, 3) := by decide +kernel
theorem dX3_addItem_56 : decode cX3_addItem 56 = .ok (.aload_n 0, 1) := by decide +kernel
theorem dX3_addItem_57 : decode cX3_addItem 57 = .ok (.dup, 1) := by decide +kernel
theorem dX3_addItem_58 : decode cX3_addItem 58 = .ok (.getfield 40, 3) := by decide +kernel
theorem dX3_addItem_61 : decode cX3_addItem 61 = .ok (.iconst 1, 1) := by decide +kernel
theorem dX3_addItem_62 : decode cX3_addItem 62 = .ok (.iadd, 1) := by decide +kernel
theorem dX3_addItem_63 : decode cX3_addItem 63 = .ok (.putfield 40, 3) := by decide +kernel
theorem dX3_addItem_66 : decode cX3_addItem 66 = .ok (.return_, 1) := by decide +kernel
theorem dX3_bar_0 : decode cX3_bar 0 = .ok (.aload_n 0, 1) := by decide +kernel
theorem dX3_bar_1 : decode cX3_bar 1 = .ok (.getfield 24, 3) := by decide +kernel
theorem dX3_bar_4 : decode cX3_bar 4 = .ok (.iload_n 1, 1) := by decide +kernel
theorem dX3_bar_5 : decode cX3_bar 5 = .ok (.aload_n 0, 1) := by decide +kernel
theorem dX3_bar_6 : decode cX3_bar 6 = .ok (.getfield 24, 3) := by decide +kernel
theorem dX3_bar_9 : decode cX3_bar 9 = .ok (.iload_n 1, 1) := by decide +kernel
theorem dX3_bar_10 : decode cX3_bar 10 = .ok (.invokestatic 59, 3) := by decide +kernel
theorem dX3_bar_13 : decode cX3_bar 13 = .ok (.iconst 1, 1) := by decide +kernel
theorem dX3_bar_14 : decode cX3_bar 14 = .ok (.iload_n 2, 1) := by decide +kernel
theorem dX3_bar_15 : decode cX3_bar 15 = .ok (.ishl, 1) := by decide +kernel
theorem dX3_bar_16 : decode cX3_bar 16 = .ok (.ior, 1) := by decide +kernel
theorem dX3_bar_17 : decode cX3_bar 17 = .ok (.invokestatic 55, 3) := by decide +kernel
theorem dX3_bar_20 : decode cX3_bar 20 = .ok (.return_, 1) := by decide +kernel
theorem dX3_need_0 : decode cX3_need 0 = .ok (.aload_n 0, 1) := by decide +kernel
theorem dX3_need_1 : decode cX3_need 1 = .ok (.getfield 21, 3) := by decide +kernel
theorem dX3_need_4 : decode cX3_need 4 = .ok (.iload_n 1, 1) := by decide +kernel
theorem dX3_need_5 : decode cX3_need 5 = .ok (.aload_n 0, 1) := by decide +kernel
theorem dX3_need_6 : decode cX3_need 6 = .ok (.getfield 21, 3) := by decide +kernel
theorem dX3_need_9 : decode cX3_need 9 = .ok (.iload_n 1, 1) := by decide +kernel
theorem dX3_need_10 : decode cX3_need 10 = .ok (.invokestatic 59, 3) := by decide +kernel
theorem dX3_need_13 : decode cX3_need 13 = .ok (.iconst 1, 1) := by decide +kernel
theorem dX3_need_14 : decode cX3_need 14 = .ok (.iload_n 2, 1) := by decide +kernel
theorem dX3_need_15 : decode cX3_need 15 = .ok (.ishl, 1) := by decide +kernel
theorem dX3_need_16 : decode cX3_need 16 = .ok (.ior, 1) := by decide +kernel
theorem dX3_need_17 : decode cX3_need 17 = .ok (.invokestatic 55, 3) := by decide +kernel
theorem dX3_need_20 : decode cX3_need 20 = .ok (.return_, 1) := by decide +kernel
theorem dX3_costAt_0 : decode cX3_costAt 0 = .ok (.aload_n 0, 1) := by decide +kernel
theorem dX3_costAt_1 : decode cX3_costAt 1 = .ok (.getfield 9, 3) := by decide +kernel
theorem dX3_costAt_4 : decode cX3_costAt 4 = .ok (.iload_n 1, 1) := by decide +kernel
theorem dX3_costAt_5 : decode cX3_costAt 5 = .ok (.invokestatic 59, 3) := by decide +kernel
theorem dX3_costAt_8 : decode cX3_costAt 8 = .ok (.ireturn, 1) := by decide +kernel
theorem dX3_startAt_0 : decode cX3_startAt 0 = .ok (.aload_n 0, 1) := by decide +kernel
theorem dX3_startAt_1 : decode cX3_startAt 1 = .ok (.getfield 15, 3) := by decide +kernel
theorem dX3_startAt_4 : decode cX3_startAt 4 = .ok (.iload_n 1, 1) := by decide +kernel
theorem dX3_startAt_5 : decode cX3_startAt 5 = .ok (.invokestatic 59, 3) := by decide +kernel
theorem dX3_startAt_8 : decode cX3_startAt 8 = .ok (.ireturn, 1) := by decide +kernel
theorem dX3_endAt_0 : decode cX3_endAt 0 = .ok (.aload_n 0, 1) := by decide +kernel
theorem dX3_endAt_1 : decode cX3_endAt 1 = .ok (.getfield 18, 3) := by decide +kernel
theorem dX3_endAt_4 : decode cX3_endAt 4 = .ok (.iload_n 1, 1) := by decide +kernel
theorem dX3_endAt_5 : decode cX3_endAt 5 = .ok (.invokestatic 59, 3) := by decide +kernel
theorem dX3_endAt_8 : decode cX3_endAt 8 = .ok (.ireturn, 1) := by decide +kernel
theorem dX3_canFollow_0 : decode cX3_canFollow 0 = .ok (.iload_n 2, 1) := by decide +kernel
theorem dX3_canFollow_1 : decode cX3_canFollow 1 = .ok (.iload_n 1, 1) := by decide +kernel
theorem dX3_canFollow_2 : decode cX3_canFollow 2 = .ok (.ishr, 1) := by decide +kernel
theorem dX3_canFollow_3 : decode cX3_canFollow 3 = .ok (.iconst 1, 1) := by decide +kernel
theorem dX3_canFollow_4 : decode cX3_canFollow 4 = .ok (.iand, 1) := by decide +kernel
theorem dX3_canFollow_5 : decode cX3_canFollow 5 = .ok (.ifCond .ne 22, 3) := by decide +kernel
theorem dX3_canFollow_8 : decode cX3_canFollow 8 = .ok (.aload_n 0, 1) := by decide +kernel
theorem dX3_canFollow_9 : decode cX3_canFollow 9 = .ok (.getfield 21, 3) := by decide +kernel
theorem dX3_canFollow_12 : decode cX3_canFollow 12 = .ok (.iload_n 1, 1) := by decide +kernel
theorem dX3_canFollow_13 : decode cX3_canFollow 13 = .ok (.invokestatic 59, 3) := by decide +kernel
theorem dX3_canFollow_16 : decode cX3_canFollow 16 = .ok (.iload_n 2, 1) := by decide +kernel
theorem dX3_canFollow_17 : decode cX3_canFollow 17 = .ok (.iconst (-1), 1) := by decide +kernel
theorem dX3_canFollow_18 : decode cX3_canFollow 18 = .ok (.ixor, 1) := by decide +kernel
theorem dX3_canFollow_19 : decode cX3_canFollow 19 = .ok (.iand, 1) := by decide +kernel
theorem dX3_canFollow_20 : decode cX3_canFollow 20 = .ok (.ifCond .ne 7, 3) := by decide +kernel
theorem dX3_canFollow_23 : decode cX3_canFollow 23 = .ok (.iconst 1, 1) := by decide +kernel
theorem dX3_canFollow_24 : decode cX3_canFollow 24 = .ok (.goto 4, 3) := by decide +kernel
theorem dX3_canFollow_27 : decode cX3_canFollow 27 = .ok (.iconst 0, 1) := by decide +kernel
theorem dX3_canFollow_28 : decode cX3_canFollow 28 = .ok (.ireturn, 1) := by decide +kernel
theorem dX3_isChoice_0 : decode cX3_isChoice 0 = .ok (.iload_n 1, 1) := by decide +kernel
theorem dX3_isChoice_1 : decode cX3_isChoice 1 = .ok (.invokestatic 63, 3) := by decide +kernel
theorem dX3_isChoice_4 : decode cX3_isChoice 4 = .ok (.aload_n 0, 1) := by decide +kernel
theorem dX3_isChoice_5 : decode cX3_isChoice 5 = .ok (.getfield 31, 3) := by decide +kernel
theorem dX3_isChoice_8 : decode cX3_isChoice 8 = .ok (.if_icmp .eq 5, 3) := by decide +kernel
theorem dX3_isChoice_11 : decode cX3_isChoice 11 = .ok (.iconst 0, 1) := by decide +kernel
theorem dX3_isChoice_12 : decode cX3_isChoice 12 = .ok (.ireturn, 1) := by decide +kernel
theorem dX3_isChoice_13 : decode cX3_isChoice 13 = .ok (.iconst 0, 1) := by decide +kernel
theorem dX3_isChoice_14 : decode cX3_isChoice 14 = .ok (.istore_n 2, 1) := by decide +kernel
theorem dX3_isChoice_15 : decode cX3_isChoice 15 = .ok (.iload_n 2, 1) := by decide +kernel
theorem dX3_isChoice_16 : decode cX3_isChoice 16 = .ok (.aload_n 0, 1) := by decide +kernel
theorem dX3_isChoice_17 : decode cX3_isChoice 17 = .ok (.getfield 40, 3) := by decide +kernel
theorem dX3_isChoice_20 : decode cX3_isChoice 20 = .ok (.if_icmp .ge 57, 3) := by decide +kernel
theorem dX3_isChoice_23 : decode cX3_isChoice 23 = .ok (.iload_n 1, 1) := by decide +kernel
theorem dX3_isChoice_24 : decode cX3_isChoice 24 = .ok (.iload_n 2, 1) := by decide +kernel
theorem dX3_isChoice_25 : decode cX3_isChoice 25 = .ok (.ishr, 1) := by decide +kernel
theorem dX3_isChoice_26 : decode cX3_isChoice 26 = .ok (.iconst 1, 1) := by decide +kernel
theorem dX3_isChoice_27 : decode cX3_isChoice 27 = .ok (.iand, 1) := by decide +kernel
theorem dX3_isChoice_28 : decode cX3_isChoice 28 = .ok (.ifCond .eq 7, 3) := by decide +kernel
theorem dX3_isChoice_31 : decode cX3_isChoice 31 = .ok (.iconst 1, 1) := by decide +kernel
theorem dX3_isChoice_32 : decode cX3_isChoice 32 = .ok (.goto 4, 3) := by decide +kernel
theorem dX3_isChoice_35 : decode cX3_isChoice 35 = .ok (.iconst 0, 1) := by decide +kernel
theorem dX3_isChoice_36 : decode cX3_isChoice 36 = .ok (.istore_n 3, 1) := by decide +kernel
theorem dX3_isChoice_37 : decode cX3_isChoice 37 = .ok (.iload_n 3, 1) := by decide +kernel
theorem dX3_isChoice_38 : decode cX3_isChoice 38 = .ok (.ifCond .eq 33, 3) := by decide +kernel
theorem dX3_isChoice_41 : decode cX3_isChoice 41 = .ok (.aload_n 0, 1) := by decide +kernel
theorem dX3_isChoice_42 : decode cX3_isChoice 42 = .ok (.getfield 21, 3) := by decide +kernel
theorem dX3_isChoice_45 : decode cX3_isChoice 45 = .ok (.iload_n 2, 1) := by decide +kernel
theorem dX3_isChoice_46 : decode cX3_isChoice 46 = .ok (.invokestatic 59, 3) := by decide +kernel
theorem dX3_isChoice_49 : decode cX3_isChoice 49 = .ok (.iload_n 1, 1) := by decide +kernel
theorem dX3_isChoice_50 : decode cX3_isChoice 50 = .ok (.iconst (-1), 1) := by decide +kernel
theorem dX3_isChoice_51 : decode cX3_isChoice 51 = .ok (.ixor, 1) := by decide +kernel
theorem dX3_isChoice_52 : decode cX3_isChoice 52 = .ok (.iand, 1) := by decide +kernel
theorem dX3_isChoice_53 : decode cX3_isChoice 53 = .ok (.ifCond .ne 16, 3) := by decide +kernel
theorem dX3_isChoice_56 : decode cX3_isChoice 56 = .ok (.aload_n 0, 1) := by decide +kernel
theorem dX3_isChoice_57 : decode cX3_isChoice 57 = .ok (.getfield 24, 3) := by decide +kernel
theorem dX3_isChoice_60 : decode cX3_isChoice 60 = .ok (.iload_n 2, 1) := by decide +kernel
theorem dX3_isChoice_61 : decode cX3_isChoice 61 = .ok (.invokestatic 59, 3) := by decide +kernel
theorem dX3_isChoice_64 : decode cX3_isChoice 64 = .ok (.iload_n 1, 1) := by decide +kernel
theorem dX3_isChoice_65 : decode cX3_isChoice 65 = .ok (.iand, 1) := by decide +kernel
theorem dX3_isChoice_66 : decode cX3_isChoice 66 = .ok (.ifCond .eq 5, 3) := by decide +kernel
theorem dX3_isChoice_69 : decode cX3_isChoice 69 = .ok (.iconst 0, 1) := by decide +kernel
theorem dX3_isChoice_70 : decode cX3_isChoice 70 = .ok (.ireturn, 1) := by decide +kernel
theorem dX3_isChoice_71 : decode cX3_isChoice 71 = .ok (.iinc 2 1, 3) := by decide +kernel
theorem dX3_isChoice_74 : decode cX3_isChoice 74 = .ok (.goto (-59), 3) := by decide +kernel
theorem dX3_isChoice_77 : decode cX3_isChoice 77 = .ok (.iconst 1, 1) := by decide +kernel
theorem dX3_isChoice_78 : decode cX3_isChoice 78 = .ok (.ireturn, 1) := by decide +kernel
theorem dX3_greaterCosts_0 : decode cX3_greaterCosts 0 = .ok (.iconst 0, 1) := by decide +kernel
theorem dX3_greaterCosts_1 : decode cX3_greaterCosts 1 = .ok (.istore_n 3, 1) := by decide +kernel
theorem dX3_greaterCosts_2 : decode cX3_greaterCosts 2 = .ok (.iconst 0, 1) := by decide +kernel
theorem dX3_greaterCosts_3 : decode cX3_greaterCosts 3 = .ok (.istore 4, 2) := by decide +kernel
theorem dX3_greaterCosts_5 : decode cX3_greaterCosts 5 = .ok (.iload 4, 2) := by decide +kernel
theorem dX3_greaterCosts_7 : decode cX3_greaterCosts 7 = .ok (.aload_n 0, 1) := by decide +kernel
theorem dX3_greaterCosts_8 : decode cX3_greaterCosts 8 = .ok (.getfield 40, 3) := by decide +kernel
theorem dX3_greaterCosts_11 : decode cX3_greaterCosts 11 = .ok (.if_icmp .ge 36, 3) := by decide +kernel
theorem dX3_greaterCosts_14 : decode cX3_greaterCosts 14 = .ok (.iload_n 2, 1) := by decide +kernel
theorem dX3_greaterCosts_15 : decode cX3_greaterCosts 15 = .ok (.iload 4, 2) := by decide +kernel
theorem dX3_greaterCosts_17 : decode cX3_greaterCosts 17 = .ok (.ishr, 1) := by decide +kernel
theorem dX3_greaterCosts_18 : decode cX3_greaterCosts 18 = .ok (.iconst 1, 1) := by decide +kernel
theorem dX3_greaterCosts_19 : decode cX3_greaterCosts 19 = .ok (.iand, 1) := by decide +kernel
theorem dX3_greaterCosts_20 : decode cX3_greaterCosts 20 = .ok (.ifCond .eq 21, 3) := by decide +kernel
theorem dX3_greaterCosts_23 : decode cX3_greaterCosts 23 = .ok (.iload_n 3, 1) := by decide +kernel
theorem dX3_greaterCosts_24 : decode cX3_greaterCosts 24 = .ok (.aload_n 0, 1) := by decide +kernel
theorem dX3_greaterCosts_25 : decode cX3_greaterCosts 25 = .ok (.iload 4, 2) := by decide +kernel
theorem dX3_greaterCosts_27 : decode cX3_greaterCosts 27 = .ok (.invokevirtual 69, 3) := by decide +kernel
theorem dX3_greaterCosts_30 : decode cX3_greaterCosts 30 = .ok (.aload_n 1, 1) := by decide +kernel
theorem dX3_greaterCosts_31 : decode cX3_greaterCosts 31 = .ok (.iload 4, 2) := by decide +kernel
theorem dX3_greaterCosts_33 : decode cX3_greaterCosts 33 = .ok (.invokevirtual 69, 3) := by decide +kernel
theorem dX3_greaterCosts_36 : decode cX3_greaterCosts 36 = .ok (.invokestatic 72, 3) := by decide +kernel
theorem dX3_greaterCosts_39 : decode cX3_greaterCosts 39 = .ok (.iadd, 1) := by decide +kernel
theorem dX3_greaterCosts_40 : decode cX3_greaterCosts 40 = .ok (.istore_n 3, 1) := by decide +kernel
theorem dX3_greaterCosts_41 : decode cX3_greaterCosts 41 = .ok (.iinc 4 1, 3) := by decide +kernel
theorem dX3_greaterCosts_44 : decode cX3_greaterCosts 44 = .ok (.goto (-39), 3) := by decide +kernel
theorem dX3_greaterCosts_47 : decode cX3_greaterCosts 47 = .ok (.iload_n 3, 1) := by decide +kernel
theorem dX3_greaterCosts_48 : decode cX3_greaterCosts 48 = .ok (.ireturn, 1) := by decide +kernel
theorem dX3_looseBits_0 : decode cX3_looseBits 0 = .ok (.aload_n 0, 1) := by decide +kernel
theorem dX3_looseBits_1 : decode cX3_looseBits 1 = .ok (.getfield 27, 3) := by decide +kernel
theorem dX3_looseBits_4 : decode cX3_looseBits 4 = .ok (.iconst 2, 1) := by decide +kernel
theorem dX3_looseBits_5 : decode cX3_looseBits 5 = .ok (.if_icmp .eq 8, 3) := by decide +kernel
theorem dX3_looseBits_8 : decode cX3_looseBits 8 = .ok (.aload_n 0, 1) := by decide +kernel
theorem dX3_looseBits_9 : decode cX3_looseBits 9 = .ok (.getfield 46, 3) := by decide +kernel
theorem dX3_looseBits_12 : decode cX3_looseBits 12 = .ok (.ireturn, 1) := by decide +kernel
theorem dX3_looseBits_13 : decode cX3_looseBits 13 = .ok (.iconst 0, 1) := by decide +kernel
theorem dX3_looseBits_14 : decode cX3_looseBits 14 = .ok (.istore_n 1, 1) := by decide +kernel
theorem dX3_looseBits_15 : decode cX3_looseBits 15 = .ok (.iconst 1, 1) := by decide +kernel
theorem dX3_looseBits_16 : decode cX3_looseBits 16 = .ok (.istore_n 2, 1) := by decide +kernel
theorem dX3_looseBits_17 : decode cX3_looseBits 17 = .ok (.iload_n 2, 1) := by decide +kernel
theorem dX3_looseBits_18 : decode cX3_looseBits 18 = .ok (.aload_n 0, 1) := by decide +kernel
theorem dX3_looseBits_19 : decode cX3_looseBits 19 = .ok (.getfield 40, 3) := by decide +kernel
theorem dX3_looseBits_22 : decode cX3_looseBits 22 = .ok (.if_icmp .ge 52, 3) := by decide +kernel
theorem dX3_looseBits_25 : decode cX3_looseBits 25 = .ok (.iconst 0, 1) := by decide +kernel
theorem dX3_looseBits_26 : decode cX3_looseBits 26 = .ok (.istore_n 3, 1) := by decide +kernel
theorem dX3_looseBits_27 : decode cX3_looseBits 27 = .ok (.iload_n 3, 1) := by decide +kernel
theorem dX3_looseBits_28 : decode cX3_looseBits 28 = .ok (.iload_n 2, 1) := by decide +kernel
theorem dX3_looseBits_29 : decode cX3_looseBits 29 = .ok (.if_icmp .ge 39, 3) := by decide +kernel
theorem dX3_looseBits_32 : decode cX3_looseBits 32 = .ok (.aload_n 0, 1) := by decide +kernel
theorem dX3_looseBits_33 : decode cX3_looseBits 33 = .ok (.getfield 46, 3) := by decide +kernel
theorem dX3_looseBits_36 : decode cX3_looseBits 36 = .ok (.iload_n 3, 1) := by decide +kernel
theorem dX3_looseBits_37 : decode cX3_looseBits 37 = .ok (.ishr, 1) := by decide +kernel
theorem dX3_looseBits_38 : decode cX3_looseBits 38 = .ok (.iconst 1, 1) := by decide +kernel
theorem dX3_looseBits_39 : decode cX3_looseBits 39 = .ok (.iand, 1) := by decide +kernel
theorem dX3_looseBits_40 : decode cX3_looseBits 40 = .ok (.ifCond .ne 14, 3) := by decide +kernel
theorem dX3_looseBits_43 : decode cX3_looseBits 43 = .ok (.aload_n 0, 1) := by decide +kernel
theorem dX3_looseBits_44 : decode cX3_looseBits 44 = .ok (.getfield 46, 3) := by decide +kernel
theorem dX3_looseBits_47 : decode cX3_looseBits 47 = .ok (.iload_n 2, 1) := by decide +kernel
theorem dX3_looseBits_48 : decode cX3_looseBits 48 = .ok (.ishr, 1) := by decide +kernel
theorem dX3_looseBits_49 : decode cX3_looseBits 49 = .ok (.iconst 1, 1) := by decide +kernel
theorem dX3_looseBits_50 : decode cX3_looseBits 50 = .ok (.iand, 1) := by decide +kernel
theorem dX3_looseBits_51 : decode cX3_looseBits 51 = .ok (.ifCond .eq 11, 3) := by decide +kernel
theorem dX3_looseBits_54 : decode cX3_looseBits 54 = .ok (.iload_n 1, 1) := by decide +kernel
theorem dX3_looseBits_55 : decode cX3_looseBits 55 = .ok (.iload_n 3, 1) := by decide +kernel
theorem dX3_looseBits_56 : decode cX3_looseBits 56 = .ok (.iload_n 2, 1) := by decide +kernel
theorem dX3_looseBits_57 : decode cX3_looseBits 57 = .ok (.invokestatic 78, 3) := by decide +kernel
theorem dX3_looseBits_60 : decode cX3_looseBits 60 = .ok (.ior, 1) := by decide +kernel
theorem dX3_looseBits_61 : decode cX3_looseBits 61 = .ok (.istore_n 1, 1) := by decide +kernel
theorem dX3_looseBits_62 : decode cX3_looseBits 62 = .ok (.iinc 3 1, 3) := by decide +kernel
theorem dX3_looseBits_65 : decode cX3_looseBits 65 = .ok (.goto (-38), 3) := by decide +kernel
theorem dX3_looseBits_68 : decode cX3_looseBits 68 = .ok (.iinc 2 1, 3) := by decide +kernel
theorem dX3_looseBits_71 : decode cX3_looseBits 71 = .ok (.goto (-54), 3) := by decide +kernel
theorem dX3_looseBits_74 : decode cX3_looseBits 74 = .ok (.iload_n 1, 1) := by decide +kernel
theorem dX3_looseBits_75 : decode cX3_looseBits 75 = .ok (.ireturn, 1) := by decide +kernel
theorem dX3_coupleBit_0 : decode cX3_coupleBit 0 = .ok (.iconst 1, 1) := by decide +kernel
theorem dX3_coupleBit_1 : decode cX3_coupleBit 1 = .ok (.iload_n 1, 1) := by decide +kernel
theorem dX3_coupleBit_2 : decode cX3_coupleBit 2 = .ok (.iload_n 1, 1) := by decide +kernel
theorem dX3_coupleBit_3 : decode cX3_coupleBit 3 = .ok (.iconst 1, 1) := by decide +kernel
theorem dX3_coupleBit_4 : decode cX3_coupleBit 4 = .ok (.isub, 1) := by decide +kernel
theorem dX3_coupleBit_5 : decode cX3_coupleBit 5 = .ok (.imul, 1) := by decide +kernel
theorem dX3_coupleBit_6 : decode cX3_coupleBit 6 = .ok (.iconst 2, 1) := by decide +kernel
theorem dX3_coupleBit_7 : decode cX3_coupleBit 7 = .ok (.idiv, 1) := by decide +kernel
theorem dX3_coupleBit_8 : decode cX3_coupleBit 8 = .ok (.iload_n 0, 1) := by decide +kernel
theorem dX3_coupleBit_9 : decode cX3_coupleBit 9 = .ok (.iadd, 1) := by decide +kernel
theorem dX3_coupleBit_10 : decode cX3_coupleBit 10 = .ok (.ishl, 1) := by decide +kernel
theorem dX3_coupleBit_11 : decode cX3_coupleBit 11 = .ok (.ireturn, 1) := by decide +kernel
theorem dX4_init_0 : decode cX4_init 0 = .ok (.aload_n 0, 1) := by decide +kernel
theorem dX4_init_1 : decode cX4_init 1 = .ok (.invokespecial 3, 3) := by decide +kernel
theorem dX4_init_4 : decode cX4_init 4 = .ok (.aload_n 0, 1) := by decide +kernel
theorem dX4_init_5 : decode cX4_init 5 = .ok (.aload_n 1, 1) := by decide +kernel
theorem dX4_init_6 : decode cX4_init 6 = .ok (.putfield 9, 3) := by decide +kernel
theorem dX4_init_9 : decode cX4_init 9 = .ok (.return_, 1) := by decide +kernel
theorem dX4_readTown_0 : decode cX4_readTown 0 = .ok (.aload_n 0, 1) := by decide +kernel
theorem dX4_readTown_1 : decode cX4_readTown 1 = .ok (.iload_n 1, 1) := by decide +kernel
theorem dX4_readTown_2 : decode cX4_readTown 2 = .ok (.putfield 15, 3) := by decide +kernel
theorem dX4_readTown_5 : decode cX4_readTown 5 = .ok (.aload_n 0, 1) := by decide +kernel
theorem dX4_readTown_6 : decode cX4_readTown 6 = .ok (.iconst 0, 1) := by decide +kernel
theorem dX4_readTown_7 : decode cX4_readTown 7 = .ok (.putfield 19, 3) := by decide +kernel
theorem dX4_readTown_10 : decode cX4_readTown 10 = .ok (.aload_n 0, 1) := by decide +kernel
theorem dX4_readTown_11 : decode cX4_readTown 11 = .ok (.iconst 0, 1) := by decide +kernel
theorem dX4_readTown_12 : decode cX4_readTown 12 = .ok (.putfield 22, 3) := by decide +kernel
theorem dX4_readTown_15 : decode cX4_readTown 15 = .ok (.aload_n 0, 1) := by decide +kernel
theorem dX4_readTown_16 : decode cX4_readTown 16 = .ok (.iconst 0, 1) := by decide +kernel
theorem dX4_readTown_17 : decode cX4_readTown 17 = .ok (.putfield 25, 3) := by decide +kernel
theorem dX4_readTown_20 : decode cX4_readTown 20 = .ok (.aload_n 0, 1) := by decide +kernel
theorem dX4_readTown_21 : decode cX4_readTown 21 = .ok (.invokevirtual 28, 3) := by decide +kernel
theorem dX4_readTown_24 : decode cX4_readTown 24 = .ok (.iconst 0, 1) := by decide +kernel
theorem dX4_readTown_25 : decode cX4_readTown 25 = .ok (.istore_n 3, 1) := by decide +kernel
theorem dX4_readTown_26 : decode cX4_readTown 26 = .ok (.iload_n 3, 1) := by decide +kernel
theorem dX4_readTown_27 : decode cX4_readTown 27 = .ok (.sipush 700, 3) := by decide +kernel
theorem dX4_readTown_30 : decode cX4_readTown 30 = .ok (.if_icmp .gt 88, 3) := by decide +kernel
theorem dX4_readTown_33 : decode cX4_readTown 33 = .ok (.aload_n 0, 1) := by decide +kernel
theorem dX4_readTown_34 : decode cX4_readTown 34 = .ok (.getfield 31, 3) := by decide +kernel
theorem dX4_readTown_37 : decode cX4_readTown 37 = .ok (.ifCond .eq 81, 3) := by decide +kernel
theorem dX4_readTown_40 : decode cX4_readTown 40 = .ok (.aload_n 0, 1) := by decide +kernel
theorem dX4_readTown_41 : decode cX4_readTown 41 = .ok (.getfield 22, 3) := by decide +kernel
theorem dX4_readTown_44 : decode cX4_readTown 44 = .ok (.ifCond .ne 74, 3) := by decide +kernel
theorem dX4_readTown_47 : decode cX4_readTown 47 = .ok (.aload_n 0, 1) := by decide +kernel
theorem dX4_readTown_48 : decode cX4_readTown 48 = .ok (.ldc 34, 2) := by decide +kernel
theorem dX4_readTown_50 : decode cX4_readTown 50 = .ok (.invokevirtual 36, 3) := by decide +kernel
theorem dX4_readTown_53 : decode cX4_readTown 53 = .ok (.ifCond .eq 7, 3) := by decide +kernel
theorem dX4_readTown_56 : decode cX4_readTown 56 = .ok (.iconst 0, 1) := by decide +kernel
theorem dX4_readTown_57 : decode cX4_readTown 57 = .ok (.goto 30, 3) := by decide +kernel
theorem dX4_readTown_60 : decode cX4_readTown 60 = .ok (.aload_n 0, 1) := by decide +kernel
theorem dX4_readTown_61 : decode cX4_readTown 61 = .ok (.ldc 40, 2) := by decide +kernel
theorem dX4_readTown_63 : decode cX4_readTown 63 = .ok (.invokevirtual 36, 3) := by decide +kernel
theorem dX4_readTown_66 : decode cX4_readTown 66 = .ok (.ifCond .eq 7, 3) := by decide +kernel
theorem dX4_readTown_69 : decode cX4_readTown 69 = .ok (.iconst 1, 1) := by decide +kernel
theorem dX4_readTown_70 : decode cX4_readTown 70 = .ok (.goto 17, 3) := by decide +kernel
theorem dX4_readTown_73 : decode cX4_readTown 73 = .ok (.aload_n 0, 1) := by decide +kernel
theorem dX4_readTown_74 : decode cX4_readTown 74 = .ok (.ldc 42, 2) := by decide +kernel
theorem dX4_readTown_76 : decode cX4_readTown 76 = .ok (.invokevirtual 36, 3) := by decide +kernel
theorem dX4_readTown_79 : decode cX4_readTown 79 = .ok (.ifCond .eq 7, 3) := by decide +kernel
theorem dX4_readTown_82 : decode cX4_readTown 82 = .ok (.iconst 2, 1) := by decide +kernel
theorem dX4_readTown_83 : decode cX4_readTown 83 = .ok (.goto 4, 3) := by decide +kernel
theorem dX4_readTown_86 : decode cX4_readTown 86 = .ok (.iconst (-1), 1) := by decide +kernel
theorem dX4_readTown_87 : decode cX4_readTown 87 = .ok (.istore 4, 2) := by decide +kernel
theorem dX4_readTown_89 : decode cX4_readTown 89 = .ok (.iload 4, 2) := by decide +kernel
theorem dX4_readTown_91 : decode cX4_readTown 91 = .ok (.iconst (-1), 1) := by decide +kernel
theorem dX4_readTown_92 : decode cX4_readTown 92 = .ok (.if_icmp .eq 14, 3) := by decide +kernel
theorem dX4_readTown_95 : decode cX4_readTown 95 = .ok (.aload_n 0, 1) := by decide +kernel
theorem dX4_readTown_96 : decode cX4_readTown 96 = .ok (.aload_n 2, 1) := by decide +kernel
theorem dX4_readTown_97 : decode cX4_readTown 97 = .ok (.iload 4, 2) := by decide +kernel
theorem dX4_readTown_99 : decode cX4_readTown 99 = .ok (.invokevirtual 44, 3) := by decide +kernel
theorem dX4_readTown_102 : decode cX4_readTown 102 = .ok (.pop, 1) := by decide +kernel
theorem dX4_readTown_103 : decode cX4_readTown 103 = .ok (.goto 9, 3) := by decide +kernel
theorem dX4_readTown_106 : decode cX4_readTown 106 = .ok (.aload_n 0, 1) := by decide +kernel
theorem dX4_readTown_107 : decode cX4_readTown 107 = .ok (.aload_n 2, 1) := by decide +kernel
theorem dX4_readTown_108 : decode cX4_readTown 108 = .ok (.invokevirtual 48, 3) := by decide +kernel
theorem dX4_readTown_111 : decode cX4_readTown 111 = .ok (.pop, 1) := by decide +kernel
theorem dX4_readTown_112 : decode cX4_readTown 112 = .ok (.iinc 3 1, 3) := by decide +kernel
theorem dX4_readTown_115 : decode cX4_readTown 115 = .ok (.goto (-89), 3) := by decide +kernel
theorem dX4_readTown_118 : decode cX4_readTown 118 = .ok (.aload_n 0, 1) := by decide +kernel
theorem dX4_readTown_119 : decode cX4_readTown 119 = .ok (.getfield 22, 3) := by decide +kernel
theorem dX4_readTown_122 : decode cX4_readTown 122 = .ok (.ireturn, 1) := by decide +kernel
theorem dX4_readHead_0 : decode cX4_readHead 0 = .ok (.aload_n 0, 1) := by decide +kernel
theorem dX4_readHead_1 : decode cX4_readHead 1 = .ok (.getfield 25, 3) := by decide +kernel
theorem dX4_readHead_4 : decode cX4_readHead 4 = .ok (.ifCond .lt 12, 3) := by decide +kernel
theorem dX4_readHead_7 : decode cX4_readHead 7 = .ok (.aload_n 0, 1) := by decide +kernel
theorem dX4_readHead_8 : decode cX4_readHead 8 = .ok (.getfield 25, 3) := by decide +kernel
theorem dX4_readHead_11 : decode cX4_readHead 11 = .ok (.aload_n 1, 1) := by decide +kernel
theorem dX4_readHead_12 : decode cX4_readHead 12 = .ok (.arraylength, 1) := by decide +kernel
theorem dX4_readHead_13 : decode cX4_readHead 13 = .ok (.if_icmp .lt 9, 3) := by decide +kernel
theorem dX4_readHead_16 : decode cX4_readHead 16 = .ok (.aload_n 0, 1) := by decide +kernel
theorem dX4_readHead_17 : decode cX4_readHead 17 = .ok (.iconst 2, 1) := by decide +kernel
theorem dX4_readHead_18 : decode cX4_readHead 18 = .ok (.invokevirtual 52, 3) := by decide +kernel
theorem dX4_readHead_21 : decode cX4_readHead 21 = .ok (.ireturn, 1) := by decide +kernel
theorem dX4_readHead_22 : decode cX4_readHead 22 = .ok (.aload_n 1, 1) := by decide +kernel
theorem dX4_readHead_23 : decode cX4_readHead 23 = .ok (.aload_n 0, 1) := by decide +kernel
theorem dX4_readHead_24 : decode cX4_readHead 24 = .ok (.getfield 25, 3) := by decide +kernel
theorem dX4_readHead_27 : decode cX4_readHead 27 = .ok (.aaload, 1) := by decide +kernel
theorem dX4_readHead_28 : decode cX4_readHead 28 = .ok (.astore_n 3, 1) := by decide +kernel
theorem dX4_readHead_29 : decode cX4_readHead 29 = .ok (.aload_n 0, 1) := by decide +kernel
theorem dX4_readHead_30 : decode cX4_readHead 30 = .ok (.dup, 1) := by decide +kernel
theorem dX4_readHead_31 : decode cX4_readHead 31 = .ok (.getfield 25, 3) := by decide +kernel
theorem dX4_readHead_34 : decode cX4_readHead 34 = .ok (.iconst 1, 1) := by decide +kernel
theorem dX4_readHead_35 : decode cX4_readHead 35 = .ok (.iadd, 1) := by decide +kernel
theorem dX4_readHead_36 : decode cX4_readHead 36 = .ok (.putfield 25, 3) := by decide +kernel
theorem dX4_readHead_39 : decode cX4_readHead 39 = .ok (.aload_n 3, 1) := by decide +kernel
theorem dX4_readHead_40 : decode cX4_readHead 40 = .ok (.iload_n 2, 1) := by decide +kernel
theorem dX4_readHead_41 : decode cX4_readHead 41 = .ok (.invokevirtual 56, 3) := by decide +kernel
theorem dX4_readHead_44 : decode cX4_readHead 44 = .ok (.aload_n 0, 1) := by decide +kernel
theorem dX4_readHead_45 : decode cX4_readHead 45 = .ok (.invokevirtual 28, 3) := by decide +kernel
theorem dX4_readHead_48 : decode cX4_readHead 48 = .ok (.aload_n 0, 1) := by decide +kernel
theorem dX4_readHead_49 : decode cX4_readHead 49 = .ok (.aload_n 3, 1) := by decide +kernel
theorem dX4_readHead_50 : decode cX4_readHead 50 = .ok (.invokevirtual 62, 3) := by decide +kernel
theorem dX4_readHead_53 : decode cX4_readHead 53 = .ok (.ifCond .eq 22, 3) := by decide +kernel
theorem dX4_readHead_56 : decode cX4_readHead 56 = .ok (.aload_n 0, 1) := by decide +kernel
theorem dX4_readHead_57 : decode cX4_readHead 57 = .ok (.aload_n 3, 1) := by decide +kernel
theorem dX4_readHead_58 : decode cX4_readHead 58 = .ok (.invokevirtual 66, 3) := by decide +kernel
theorem dX4_readHead_61 : decode cX4_readHead 61 = .ok (.ifCond .eq 14, 3) := by decide +kernel
theorem dX4_readHead_64 : decode cX4_readHead 64 = .ok (.aload_n 0, 1) := by decide +kernel
theorem dX4_readHead_65 : decode cX4_readHead 65 = .ok (.invokevirtual 69, 3) := by decide +kernel
theorem dX4_readHead_68 : decode cX4_readHead 68 = .ok (.ifCond .eq 7, 3) := by decide +kernel
theorem dX4_readHead_71 : decode cX4_readHead 71 = .ok (.iconst 1, 1) := by decide +kernel
theorem dX4_readHead_72 : decode cX4_readHead 72 = .ok (.goto 4, 3) := by decide +kernel
theorem dX4_readHead_75 : decode cX4_readHead 75 = .ok (.iconst 0, 1) := by decide +kernel
theorem dX4_readHead_76 : decode cX4_readHead 76 = .ok (.ireturn, 1) := by decide +kernel
theorem dX4_readMore_0 : decode cX4_readMore 0 = .ok (.aload_n 0, 1) := by decide +kernel
theorem dX4_readMore_1 : decode cX4_readMore 1 = .ok (.getfield 25, 3) := by decide +kernel
theorem dX4_readMore_4 : decode cX4_readMore 4 = .ok (.iconst 1, 1) := by decide +kernel
theorem dX4_readMore_5 : decode cX4_readMore 5 = .ok (.if_icmp .lt 12, 3) := by decide +kernel
theorem dX4_readMore_8 : decode cX4_readMore 8 = .ok (.aload_n 0, 1) := by decide +kernel
theorem dX4_readMore_9 : decode cX4_readMore 9 = .ok (.getfield 25, 3) := by decide +kernel
theorem dX4_readMore_12 : decode cX4_readMore 12 = .ok (.aload_n 1, 1) := by decide +kernel
theorem dX4_readMore_13 : decode cX4_readMore 13 = .ok (.arraylength, 1) := by decide +kernel
theorem dX4_readMore_14 : decode cX4_readMore 14 = .ok (.if_icmp .le 9, 3) := by decide +kernel
theorem dX4_readMore_17 : decode cX4_readMore 17 = .ok (.aload_n 0, 1) := by decide +kernel
theorem dX4_readMore_18 : decode cX4_readMore 18 = .ok (.iconst 1, 1) := by decide +kernel
theorem dX4_readMore_19 : decode cX4_readMore 19 = .ok (.invokevirtual 52, 3) := by decide +kernel
theorem dX4_readMore_22 : decode cX4_readMore 22 = .ok (.ireturn, 1) := by decide +kernel
theorem dX4_readMore_23 : decode cX4_readMore 23 = .ok (.aload_n 1, 1) := by decide +kernel
theorem dX4_readMore_24 : decode cX4_readMore 24 = .ok (.aload_n 0, 1) := by decide +kernel
theorem dX4_readMore_25 : decode cX4_readMore 25 = .ok (.getfield 25, 3) := by decide +kernel
theorem dX4_readMore_28 : decode cX4_readMore 28 = .ok (.iconst 1, 1) := by decide +kernel
theorem dX4_readMore_29 : decode cX4_readMore 29 = .ok (.isub, 1) := by decide +kernel
theorem dX4_readMore_30 : decode cX4_readMore 30 = .ok (.aaload, 1) := by decide +kernel
theorem dX4_readMore_31 : decode cX4_readMore 31 = .ok (.astore_n 2, 1) := by decide +kernel
theorem dX4_readMore_32 : decode cX4_readMore 32 = .ok (.aload_n 0, 1) := by decide +kernel
theorem dX4_readMore_33 : decode cX4_readMore 33 = .ok (.aload_n 2, 1) := by decide +kernel
theorem dX4_readMore_34 : decode cX4_readMore 34 = .ok (.invokevirtual 73, 3) := by decide +kernel
theorem dX4_readMore_37 : decode cX4_readMore 37 = .ok (.ifCond .eq 9, 3) := by decide +kernel
theorem dX4_readMore_40 : decode cX4_readMore 40 = .ok (.aload_n 0, 1) := by decide +kernel
theorem dX4_readMore_41 : decode cX4_readMore 41 = .ok (.aload_n 2, 1) := by decide +kernel
theorem dX4_readMore_42 : decode cX4_readMore 42 = .ok (.invokevirtual 76, 3) := by decide +kernel
theorem dX4_readMore_45 : decode cX4_readMore 45 = .ok (.ireturn, 1) := by decide +kernel
theorem dX4_readMore_46 : decode cX4_readMore 46 = .ok (.aload_n 0, 1) := by decide +kernel
theorem dX4_readMore_47 : decode cX4_readMore 47 = .ok (.aload_n 2, 1) := by decide +kernel
theorem dX4_readMore_48 : decode cX4_readMore 48 = .ok (.invokevirtual 79, 3) := by decide +kernel
theorem dX4_readMore_51 : decode cX4_readMore 51 = .ok (.ifCond .eq 11, 3) := by decide +kernel
theorem dX4_readMore_54 : decode cX4_readMore 54 = .ok (.aload_n 0, 1) := by decide +kernel
theorem dX4_readMore_55 : decode cX4_readMore 55 = .ok (.aload_n 2, 1) := by decide +kernel
theorem dX4_readMore_56 : decode cX4_readMore 56 = .ok (.invokevirtual 82, 3) := by decide +kernel
theorem dX4_readMore_59 : decode cX4_readMore 59 = .ok (.goto 8, 3) := by decide +kernel
theorem dX4_readMore_62 : decode cX4_readMore 62 = .ok (.aload_n 0, 1) := by decide +kernel
theorem dX4_readMore_63 : decode cX4_readMore 63 = .ok (.iconst 1, 1) := by decide +kernel
theorem dX4_readMore_64 : decode cX4_readMore 64 = .ok (.invokevirtual 52, 3) := by decide +kernel
theorem dX4_readMore_67 : decode cX4_readMore 67 = .ok (.ireturn, 1) := by decide +kernel
theorem dX4_readNumberOf_0 : decode cX4_readNumberOf 0 = .ok (.aload_n 1, 1) := by decide +kernel
theorem dX4_readNumberOf_1 : decode cX4_readNumberOf 1 = .ok (.getfield 85, 3) := by decide +kernel
theorem dX4_readNumberOf_4 : decode cX4_readNumberOf 4 = .ok (.ifCond .ne 17, 3) := by decide +kernel
theorem dX4_readNumberOf_7 : decode cX4_readNumberOf 7 = .ok (.aload_n 1, 1) := by decide +kernel
theorem dX4_readNumberOf_8 : decode cX4_readNumberOf 8 = .ok (.aload_n 0, 1) := by decide +kernel
theorem dX4_readNumberOf_9 : decode cX4_readNumberOf 9 = .ok (.iconst 2, 1) := by decide +kernel
theorem dX4_readNumberOf_10 : decode cX4_readNumberOf 10 = .ok (.bipush 12, 2) := by decide +kernel
theorem dX4_readNumberOf_12 : decode cX4_readNumberOf 12 = .ok (.invokevirtual 88, 3) := by decide +kernel
theorem dX4_readNumberOf_15 : decode cX4_readNumberOf 15 = .ok (.putfield 92, 3) := by decide +kernel
theorem dX4_readNumberOf_18 : decode cX4_readNumberOf 18 = .ok (.goto 22, 3) := by decide +kernel
theorem dX4_readNumberOf_21 : decode cX4_readNumberOf 21 = .ok (.aload_n 1, 1) := by decide +kernel
theorem dX4_readNumberOf_22 : decode cX4_readNumberOf 22 = .ok (.getfield 85, 3) := by decide +kernel
theorem dX4_readNumberOf_25 : decode cX4_readNumberOf 25 = .ok (.iconst 1, 1) := by decide +kernel
theorem dX4_readNumberOf_26 : decode cX4_readNumberOf 26 = .ok (.if_icmp .ne 14, 3) := by decide +kernel
theorem dX4_readNumberOf_29 : decode cX4_readNumberOf 29 = .ok (.aload_n 1, 1) := by decide +kernel
theorem dX4_readNumberOf_30 : decode cX4_readNumberOf 30 = .ok (.aload_n 0, 1) := by decide +kernel
theorem dX4_readNumberOf_31 : decode cX4_readNumberOf 31 = .ok (.iconst 0, 1) := by decide +kernel
theorem dX4_readNumberOf_32 : decode cX4_readNumberOf 32 = .ok (.bipush 12, 2) := by decide +kernel
theorem dX4_readNumberOf_34 : decode cX4_readNumberOf 34 = .ok (.invokevirtual 88, 3) := by decide +kernel
theorem dX4_readNumberOf_37 : decode cX4_readNumberOf 37 = .ok (.putfield 92, 3) := by decide +kernel
theorem dX4_readNumberOf_40 : decode cX4_readNumberOf 40 = .ok (.aload_n 0, 1) := by decide +kernel
theorem dX4_readNumberOf_41 : decode cX4_readNumberOf 41 = .ok (.getfield 22, 3) := by decide +kernel
theorem dX4_readNumberOf_44 : decode cX4_readNumberOf 44 = .ok (.ifCond .ne 7, 3) := by decide +kernel
theorem dX4_readNumberOf_47 : decode cX4_readNumberOf 47 = .ok (.iconst 1, 1) := by decide +kernel
theorem dX4_readNumberOf_48 : decode cX4_readNumberOf 48 = .ok (.goto 4, 3) := by decide +kernel
theorem dX4_readNumberOf_51 : decode cX4_readNumberOf 51 = .ok (.iconst 0, 1) := by decide +kernel
theorem dX4_readNumberOf_52 : decode cX4_readNumberOf 52 = .ok (.ireturn, 1) := by decide +kernel
theorem dX4_readLaw_0 : decode cX4_readLaw 0 = .ok (.aload_n 0, 1) := by decide +kernel
theorem dX4_readLaw_1 : decode cX4_readLaw 1 = .ok (.ldc 95, 2) := by decide +kernel
theorem dX4_readLaw_3 : decode cX4_readLaw 3 = .ok (.invokevirtual 36, 3) := by decide +kernel
theorem dX4_readLaw_6 : decode cX4_readLaw 6 = .ok (.ifCond .ne 5, 3) := by decide +kernel
theorem dX4_readLaw_9 : decode cX4_readLaw 9 = .ok (.iconst 1, 1) := by decide +kernel
theorem dX4_readLaw_10 : decode cX4_readLaw 10 = .ok (.ireturn, 1) := by decide +kernel
theorem dX4_readLaw_11 : decode cX4_readLaw 11 = .ok (.aload_n 0, 1) := by decide +kernel
theorem dX4_readLaw_12 : decode cX4_readLaw 12 = .ok (.invokevirtual 28, 3) := by decide +kernel
theorem dX4_readLaw_15 : decode cX4_readLaw 15 = .ok (.aload_n 0, 1) := by decide +kernel
theorem dX4_readLaw_16 : decode cX4_readLaw 16 = .ok (.ldc 97, 2) := by decide +kernel
theorem dX4_readLaw_18 : decode cX4_readLaw 18 = .ok (.invokevirtual 36, 3) := by decide +kernel
theorem dX4_readLaw_21 : decode cX4_readLaw 21 = .ok (.ifCond .eq 14, 3) := by decide +kernel
theorem dX4_readLaw_24 : decode cX4_readLaw 24 = .ok (.aload_n 1, 1) := by decide +kernel
theorem dX4_readLaw_25 : decode cX4_readLaw 25 = .ok (.iconst 1, 1) := by decide +kernel
theorem dX4_readLaw_26 : decode cX4_readLaw 26 = .ok (.putfield 99, 3) := by decide +kernel
theorem dX4_readLaw_29 : decode cX4_readLaw 29 = .ok (.aload_n 0, 1) := by decide +kernel
theorem dX4_readLaw_30 : decode cX4_readLaw 30 = .ok (.invokevirtual 28, 3) := by decide +kernel
theorem dX4_readLaw_33 : decode cX4_readLaw 33 = .ok (.iconst 1, 1) := by decide +kernel
theorem dX4_readLaw_34 : decode cX4_readLaw 34 = .ok (.ireturn, 1) := by decide +kernel
theorem dX4_readLaw_35 : decode cX4_readLaw 35 = .ok (.aload_n 0, 1) := by decide +kernel
theorem dX4_readLaw_36 : decode cX4_readLaw 36 = .ok (.ldc 102, 2) := by decide +kernel
theorem dX4_readLaw_38 : decode cX4_readLaw 38 = .ok (.invokevirtual 36, 3) := by decide +kernel
theorem dX4_readLaw_41 : decode cX4_readLaw 41 = .ok (.ifCond .ne 9, 3) := by decide +kernel
theorem dX4_readLaw_44 : decode cX4_readLaw 44 = .ok (.aload_n 0, 1) := by decide +kernel
theorem dX4_readLaw_45 : decode cX4_readLaw 45 = .ok (.iconst 1, 1) := by decide +kernel
theorem dX4_readLaw_46 : decode cX4_readLaw 46 = .ok (.invokevirtual 52, 3) := by decide +kernel
theorem dX4_readLaw_49 : decode cX4_readLaw 49 = .ok (.ireturn, 1) := by decide +kernel
theorem dX4_readLaw_50 : decode cX4_readLaw 50 = .ok (.aload_n 1, 1) := by decide +kernel
theorem dX4_readLaw_51 : decode cX4_readLaw 51 = .ok (.iconst 2, 1) := by decide +kernel
theorem dX4_readLaw_52 : decode cX4_readLaw 52 = .ok (.putfield 99, 3) := by decide +kernel
theorem dX4_readLaw_55 : decode cX4_readLaw 55 = .ok (.aload_n 0, 1) := by decide +kernel
theorem dX4_readLaw_56 : decode cX4_readLaw 56 = .ok (.invokevirtual 28, 3) := by decide +kernel
theorem dX4_readLaw_59 : decode cX4_readLaw 59 = .ok (.aload_n 1, 1) := by decide +kernel
theorem dX4_readLaw_60 : decode cX4_readLaw 60 = .ok (.aload_n 0, 1) := by decide +kernel
theorem dX4_readLaw_61 : decode cX4_readLaw 61 = .ok (.iconst 1, 1) := by decide +kernel
theorem dX4_readLaw_62 : decode cX4_readLaw 62 = .ok (.bipush 9, 2) := by decide +kernel
theorem dX4_readLaw_64 : decode cX4_readLaw 64 = .ok (.invokevirtual 88, 3) := by decide +kernel
theorem dX4_readLaw_67 : decode cX4_readLaw 67 = .ok (.putfield 104, 3) := by decide +kernel
theorem dX4_readLaw_70 : decode cX4_readLaw 70 = .ok (.aload_n 0, 1) := by decide +kernel
theorem dX4_readLaw_71 : decode cX4_readLaw 71 = .ok (.getfield 22, 3) := by decide +kernel
theorem dX4_readLaw_74 : decode cX4_readLaw 74 = .ok (.ifCond .ne 7, 3) := by decide +kernel
theorem dX4_readLaw_77 : decode cX4_readLaw 77 = .ok (.iconst 1, 1) := by decide +kernel
theorem dX4_readLaw_78 : decode cX4_readLaw 78 = .ok (.goto 4, 3) := by decide +kernel
theorem dX4_readLaw_81 : decode cX4_readLaw 81 = .ok (.iconst 0, 1) := by decide +kernel
theorem dX4_readLaw_82 : decode cX4_readLaw 82 = .ok (.ireturn, 1) := by decide +kernel
theorem dX4_isItem_0 : decode cX4_isItem 0 = .ok (.aload_n 0, 1) := by decide +kernel
theorem dX4_isItem_1 : decode cX4_isItem 1 = .ok (.aload_n 1, 1) := by decide +kernel
theorem dX4_isItem_2 : decode cX4_isItem 2 = .ok (.getfield 85, 3) := by decide +kernel
theorem dX4_isItem_5 : decode cX4_isItem 5 = .ok (.ifCond .ne 8, 3) := by decide +kernel
theorem dX4_isItem_8 : decode cX4_isItem 8 = .ok (.ldc 107, 2) := by decide +kernel
theorem dX4_isItem_10 : decode cX4_isItem 10 = .ok (.goto 18, 3) := by decide +kernel
theorem dX4_isItem_13 : decode cX4_isItem 13 = .ok (.aload_n 1, 1) := by decide +kernel
theorem dX4_isItem_14 : decode cX4_isItem 14 = .ok (.getfield 85, 3) := by decide +kernel
theorem dX4_isItem_17 : decode cX4_isItem 17 = .ok (.iconst 1, 1) := by decide +kernel
theorem dX4_isItem_18 : decode cX4_isItem 18 = .ok (.if_icmp .ne 8, 3) := by decide +kernel
theorem dX4_isItem_21 : decode cX4_isItem 21 = .ok (.ldc 109, 2) := by decide +kernel
theorem dX4_isItem_23 : decode cX4_isItem 23 = .ok (.goto 5, 3) := by decide +kernel
theorem dX4_isItem_26 : decode cX4_isItem 26 = .ok (.ldc 111, 2) := by decide +kernel
theorem dX4_isItem_28 : decode cX4_isItem 28 = .ok (.invokevirtual 36, 3) := by decide +kernel
theorem dX4_isItem_31 : decode cX4_isItem 31 = .ok (.ireturn, 1) := by decide +kernel
theorem dX4_isBond_0 : decode cX4_isBond 0 = .ok (.aload_n 1, 1) := by decide +kernel
theorem dX4_isBond_1 : decode cX4_isBond 1 = .ok (.getfield 85, 3) := by decide +kernel
theorem dX4_isBond_4 : decode cX4_isBond 4 = .ok (.iconst 1, 1) := by decide +kernel
theorem dX4_isBond_5 : decode cX4_isBond 5 = .ok (.if_icmp .ne 27, 3) := by decide +kernel
theorem dX4_isBond_8 : decode cX4_isBond 8 = .ok (.aload_n 0, 1) := by decide +kernel
theorem dX4_isBond_9 : decode cX4_isBond 9 = .ok (.ldc 113, 2) := by decide +kernel
theorem dX4_isBond_11 : decode cX4_isBond 11 = .ok (.invokevirtual 36, 3) := by decide +kernel
theorem dX4_isBond_14 : decode cX4_isBond 14 = .ok (.ifCond .ne 12, 3) := by decide +kernel
theorem dX4_isBond_17 : decode cX4_isBond 17 = .ok (.aload_n 0, 1) := by decide +kernel
theorem dX4_isBond_18 : decode cX4_isBond 18 = .ok (.ldc 115, 2) := by decide +kernel
theorem dX4_isBond_20 : decode cX4_isBond 20 = .ok (.invokevirtual 36, 3) := by decide +kernel
theorem dX4_isBond_23 : decode cX4_isBond 23 = .ok (.ifCond .eq 7, 3) := by decide +kernel
theorem dX4_isBond_26 : decode cX4_isBond 26 = .ok (.iconst 1, 1) := by decide +kernel
theorem dX4_isBond_27 : decode cX4_isBond 27 = .ok (.goto 4, 3) := by decide +kernel
theorem dX4_isBond_30 : decode cX4_isBond 30 = .ok (.iconst 0, 1) := by decide +kernel
theorem dX4_isBond_31 : decode cX4_isBond 31 = .ok (.ireturn, 1) := by decide +kernel
theorem dX4_isBond_32 : decode cX4_isBond 32 = .ok (.aload_n 1, 1) := by decide +kernel
theorem dX4_isBond_33 : decode cX4_isBond 33 = .ok (.getfield 85, 3) := by decide +kernel
theorem dX4_isBond_36 : decode cX4_isBond 36 = .ok (.iconst 2, 1) := by decide +kernel
theorem dX4_isBond_37 : decode cX4_isBond 37 = .ok (.if_icmp .ne 16, 3) := by decide +kernel
theorem dX4_isBond_40 : decode cX4_isBond 40 = .ok (.aload_n 0, 1) := by decide +kernel
theorem dX4_isBond_41 : decode cX4_isBond 41 = .ok (.ldc 117, 2) := by decide +kernel
theorem dX4_isBond_43 : decode cX4_isBond 43 = .ok (.invokevirtual 36, 3) := by decide +kernel
theorem dX4_isBond_46 : decode cX4_isBond 46 = .ok (.ifCond .eq 7, 3) := by decide +kernel
theorem dX4_isBond_49 : decode cX4_isBond 49 = .ok (.iconst 1, 1) := by decide +kernel
theorem dX4_isBond_50 : decode cX4_isBond 50 = .ok (.goto 4, 3) := by decide +kernel
theorem dX4_isBond_53 : decode cX4_isBond 53 = .ok (.iconst 0, 1) := by decide +kernel
theorem dX4_isBond_54 : decode cX4_isBond 54 = .ok (.ireturn, 1) := by decide +kernel
theorem dX4_readItem_0 : decode cX4_readItem 0 = .ok (.aload_n 1, 1) := by decide +kernel
theorem dX4_readItem_1 : decode cX4_readItem 1 = .ok (.getfield 119, 3) := by decide +kernel
theorem dX4_readItem_4 : decode cX4_readItem 4 = .ok (.aload_n 1, 1) := by decide +kernel
theorem dX4_readItem_5 : decode cX4_readItem 5 = .ok (.invokevirtual 122, 3) := by decide +kernel
theorem dX4_readItem_8 : decode cX4_readItem 8 = .ok (.if_icmp .lt 9, 3) := by decide +kernel
theorem dX4_readItem_11 : decode cX4_readItem 11 = .ok (.aload_n 0, 1) := by decide +kernel
theorem dX4_readItem_12 : decode cX4_readItem 12 = .ok (.iconst 2, 1) := by decide +kernel
theorem dX4_readItem_13 : decode cX4_readItem 13 = .ok (.invokevirtual 52, 3) := by decide +kernel
theorem dX4_readItem_16 : decode cX4_readItem 16 = .ok (.ireturn, 1) := by decide +kernel
theorem dX4_readItem_17 : decode cX4_readItem 17 = .ok (.aload_n 0, 1) := by decide +kernel
theorem dX4_readItem_18 : decode cX4_readItem 18 = .ok (.invokevirtual 28, 3) := by decide +kernel
theorem dX4_readItem_21 : decode cX4_readItem 21 = .ok (.iconst 0, 1) := by decide +kernel
theorem dX4_readItem_22 : decode cX4_readItem 22 = .ok (.istore_n 2, 1) := by decide +kernel
theorem dX4_readItem_23 : decode cX4_readItem 23 = .ok (.iconst 0, 1) := by decide +kernel
theorem dX4_readItem_24 : decode cX4_readItem 24 = .ok (.istore_n 3, 1) := by decide +kernel
theorem dX4_readItem_25 : decode cX4_readItem 25 = .ok (.aload_n 1, 1) := by decide +kernel
theorem dX4_readItem_26 : decode cX4_readItem 26 = .ok (.getfield 85, 3) := by decide +kernel
theorem dX4_readItem_29 : decode cX4_readItem 29 = .ok (.ifCond .ne 36, 3) := by decide +kernel
theorem dX4_readItem_32 : decode cX4_readItem 32 = .ok (.aload_n 0, 1) := by decide +kernel
theorem dX4_readItem_33 : decode cX4_readItem 33 = .ok (.aload_n 1, 1) := by decide +kernel
theorem dX4_readItem_34 : decode cX4_readItem 34 = .ok (.getfield 92, 3) := by decide +kernel
theorem dX4_readItem_37 : decode cX4_readItem 37 = .ok (.iconst (-1), 1) := by decide +kernel
theorem dX4_readItem_38 : decode cX4_readItem 38 = .ok (.iconst (-1), 1) := by decide +kernel
theorem dX4_readItem_39 : decode cX4_readItem 39 = .ok (.invokevirtual 126, 3) := by decide +kernel
theorem dX4_readItem_42 : decode cX4_readItem 42 = .ok (.istore_n 2, 1) := by decide +kernel
theorem dX4_readItem_43 : decode cX4_readItem 43 = .ok (.aload_n 0, 1) := by decide +kernel
theorem dX4_readItem_44 : decode cX4_readItem 44 = .ok (.getfield 22, 3) := by decide +kernel
theorem dX4_readItem_47 : decode cX4_readItem 47 = .ok (.ifCond .ne 16, 3) := by decide +kernel
theorem dX4_readItem_50 : decode cX4_readItem 50 = .ok (.aload_n 0, 1) := by decide +kernel
theorem dX4_readItem_51 : decode cX4_readItem 51 = .ok (.aload_n 1, 1) := by decide +kernel
theorem dX4_readItem_52 : decode cX4_readItem 52 = .ok (.getfield 92, 3) := by decide +kernel
theorem dX4_readItem_55 : decode cX4_readItem 55 = .ok (.iload_n 2, 1) := by decide +kernel
theorem dX4_readItem_56 : decode cX4_readItem 56 = .ok (.iconst (-1), 1) := by decide +kernel
theorem dX4_readItem_57 : decode cX4_readItem 57 = .ok (.invokevirtual 126, 3) := by decide +kernel
theorem dX4_readItem_60 : decode cX4_readItem 60 = .ok (.goto 4, 3) := by decide +kernel
theorem dX4_readItem_63 : decode cX4_readItem 63 = .ok (.iconst 0, 1) := by decide +kernel
theorem dX4_readItem_64 : decode cX4_readItem 64 = .ok (.istore_n 3, 1) := by decide +kernel
theorem dX4_readItem_65 : decode cX4_readItem 65 = .ok (.aload_n 0, 1) := by decide +kernel
theorem dX4_readItem_66 : decode cX4_readItem 66 = .ok (.getfield 22, 3) := by decide +kernel
theorem dX4_readItem_69 : decode cX4_readItem 69 = .ok (.ifCond .ne 14, 3) := by decide +kernel
theorem dX4_readItem_72 : decode cX4_readItem 72 = .ok (.aload_n 0, 1) := by decide +kernel
theorem dX4_readItem_73 : decode cX4_readItem 73 = .ok (.iconst 0, 1) := by decide +kernel
theorem dX4_readItem_74 : decode cX4_readItem 74 = .ok (.sipush 999, 3) := by decide +kernel
theorem dX4_readItem_77 : decode cX4_readItem 77 = .ok (.invokevirtual 88, 3) := by decide +kernel
theorem dX4_readItem_80 : decode cX4_readItem 80 = .ok (.goto 4, 3) := by decide +kernel
theorem dX4_readItem_83 : decode cX4_readItem 83 = .ok (.iconst 0, 1) := by decide +kernel
theorem dX4_readItem_84 : decode cX4_readItem 84 = .ok (.istore 4, 2) := by decide +kernel
theorem dX4_readItem_86 : decode cX4_readItem 86 = .ok (.aload_n 0, 1) := by decide +kernel
theorem dX4_readItem_87 : decode cX4_readItem 87 = .ok (.getfield 22, 3) := by decide +kernel
theorem dX4_readItem_90 : decode cX4_readItem 90 = .ok (.ifCond .ne 16, 3) := by decide +kernel
theorem dX4_readItem_93 : decode cX4_readItem 93 = .ok (.aload_n 0, 1) := by decide +kernel
theorem dX4_readItem_94 : decode cX4_readItem 94 = .ok (.ldc 130, 2) := by decide +kernel
theorem dX4_readItem_96 : decode cX4_readItem 96 = .ok (.invokevirtual 36, 3) := by decide +kernel
theorem dX4_readItem_99 : decode cX4_readItem 99 = .ok (.ifCond .eq 7, 3) := by decide +kernel
theorem dX4_readItem_102 : decode cX4_readItem 102 = .ok (.iconst 1, 1) := by decide +kernel
theorem dX4_readItem_103 : decode cX4_readItem 103 = .ok (.goto 4, 3) := by decide +kernel
theorem dX4_readItem_106 : decode cX4_readItem 106 = .ok (.iconst 0, 1) := by decide +kernel
theorem dX4_readItem_107 : decode cX4_readItem 107 = .ok (.istore 5, 2) := by decide +kernel
theorem dX4_readItem_109 : decode cX4_readItem 109 = .ok (.iload 5, 2) := by decide +kernel
theorem dX4_readItem_111 : decode cX4_readItem 111 = .ok (.ifCond .eq 7, 3) := by decide +kernel
theorem dX4_readItem_114 : decode cX4_readItem 114 = .ok (.aload_n 0, 1) := by decide +kernel
theorem dX4_readItem_115 : decode cX4_readItem 115 = .ok (.invokevirtual 28, 3) := by decide +kernel
theorem dX4_readItem_118 : decode cX4_readItem 118 = .ok (.aload_n 0, 1) := by decide +kernel
theorem dX4_readItem_119 : decode cX4_readItem 119 = .ok (.getfield 22, 3) := by decide +kernel
theorem dX4_readItem_122 : decode cX4_readItem 122 = .ok (.ifCond .ne 10, 3) := by decide +kernel
theorem dX4_readItem_125 : decode cX4_readItem 125 = .ok (.aload_n 0, 1) := by decide +kernel
theorem dX4_readItem_126 : decode cX4_readItem 126 = .ok (.invokevirtual 69, 3) := by decide +kernel
theorem dX4_readItem_129 : decode cX4_readItem 129 = .ok (.ifCond .ne 5, 3) := by decide +kernel
theorem dX4_readItem_132 : decode cX4_readItem 132 = .ok (.iconst 0, 1) := by decide +kernel
theorem dX4_readItem_133 : decode cX4_readItem 133 = .ok (.ireturn, 1) := by decide +kernel
theorem dX4_readItem_134 : decode cX4_readItem 134 = .ok (.aload_n 1, 1) := by decide +kernel
theorem dX4_readItem_135 : decode cX4_readItem 135 = .ok (.iload_n 2, 1) := by decide +kernel
theorem dX4_readItem_136 : decode cX4_readItem 136 = .ok (.iload_n 3, 1) := by decide +kernel
theorem dX4_readItem_137 : decode cX4_readItem 137 = .ok (.iload 4, 2) := by decide +kernel
theorem dX4_readItem_139 : decode cX4_readItem 139 = .ok (.iload 5, 2) := by decide +kernel
theorem dX4_readItem_141 : decode cX4_readItem 141 = .ok (.invokevirtual 132, 3) := by decide +kernel
theorem dX4_readItem_144 : decode cX4_readItem 144 = .ok (.iconst 1, 1) := by decide +kernel
theorem dX4_readItem_145 : decode cX4_readItem 145 = .ok (.ireturn, 1) := by decide +kernel
theorem dX4_readBond_0 : decode cX4_readBond 0 = .ok (.aload_n 1, 1) := by decide +kernel
theorem dX4_readBond_1 : decode cX4_readBond 1 = .ok (.getfield 136, 3) := by decide +kernel
theorem dX4_readBond_4 : decode cX4_readBond 4 = .ok (.bipush 12, 2) := by decide +kernel
theorem dX4_readBond_6 : decode cX4_readBond 6 = .ok (.if_icmp .lt 9, 3) := by decide +kernel
theorem dX4_readBond_9 : decode cX4_readBond 9 = .ok (.aload_n 0, 1) := by decide +kernel
theorem dX4_readBond_10 : decode cX4_readBond 10 = .ok (.iconst 2, 1) := by decide +kernel
theorem dX4_readBond_11 : decode cX4_readBond 11 = .ok (.invokevirtual 52, 3) := by decide +kernel
theorem dX4_readBond_14 : decode cX4_readBond 14 = .ok (.ireturn, 1) := by decide +kernel
theorem dX4_readBond_15 : decode cX4_readBond 15 = .ok (.aload_n 0, 1) := by decide +kernel
theorem dX4_readBond_16 : decode cX4_readBond 16 = .ok (.ldc 113, 2) := by decide +kernel
theorem dX4_readBond_18 : decode cX4_readBond 18 = .ok (.invokevirtual 36, 3) := by decide +kernel
theorem dX4_readBond_21 : decode cX4_readBond 21 = .ok (.istore_n 2, 1) := by decide +kernel
theorem dX4_readBond_22 : decode cX4_readBond 22 = .ok (.aload_n 0, 1) := by decide +kernel
theorem dX4_readBond_23 : decode cX4_readBond 23 = .ok (.invokevirtual 28, 3) := by decide +kernel
theorem dX4_readBond_26 : decode cX4_readBond 26 = .ok (.aload_n 0, 1) := by decide +kernel
theorem dX4_readBond_27 : decode cX4_readBond 27 = .ok (.aload_n 1, 1) := by decide +kernel
theorem dX4_readBond_28 : decode cX4_readBond 28 = .ok (.getfield 119, 3) := by decide +kernel
theorem dX4_readBond_31 : decode cX4_readBond 31 = .ok (.iconst (-1), 1) := by decide +kernel
theorem dX4_readBond_32 : decode cX4_readBond 32 = .ok (.iconst (-1), 1) := by decide +kernel
theorem dX4_readBond_33 : decode cX4_readBond 33 = .ok (.invokevirtual 126, 3) := by decide +kernel
theorem dX4_readBond_36 : decode cX4_readBond 36 = .ok (.istore_n 3, 1) := by decide +kernel
theorem dX4_readBond_37 : decode cX4_readBond 37 = .ok (.aload_n 0, 1) := by decide +kernel
theorem dX4_readBond_38 : decode cX4_readBond 38 = .ok (.getfield 22, 3) := by decide +kernel
theorem dX4_readBond_41 : decode cX4_readBond 41 = .ok (.ifCond .ne 16, 3) := by decide +kernel
theorem dX4_readBond_44 : decode cX4_readBond 44 = .ok (.aload_n 0, 1) := by decide +kernel
theorem dX4_readBond_45 : decode cX4_readBond 45 = .ok (.aload_n 1, 1) := by decide +kernel
theorem dX4_readBond_46 : decode cX4_readBond 46 = .ok (.getfield 119, 3) := by decide +kernel
theorem dX4_readBond_49 : decode cX4_readBond 49 = .ok (.iconst (-1), 1) := by decide +kernel
theorem dX4_readBond_50 : decode cX4_readBond 50 = .ok (.iload_n 3, 1) := by decide +kernel
theorem dX4_readBond_51 : decode cX4_readBond 51 = .ok (.invokevirtual 126, 3) := by decide +kernel
theorem dX4_readBond_54 : decode cX4_readBond 54 = .ok (.goto 4, 3) := by decide +kernel
theorem dX4_readBond_57 : decode cX4_readBond 57 = .ok (.iconst 0, 1) := by decide +kernel
theorem dX4_readBond_58 : decode cX4_readBond 58 = .ok (.istore 4, 2) := by decide +kernel
theorem dX4_readBond_60 : decode cX4_readBond 60 = .ok (.aload_n 0, 1) := by decide +kernel
theorem dX4_readBond_61 : decode cX4_readBond 61 = .ok (.getfield 22, 3) := by decide +kernel
theorem dX4_readBond_64 : decode cX4_readBond 64 = .ok (.ifCond .ne 10, 3) := by decide +kernel
theorem dX4_readBond_67 : decode cX4_readBond 67 = .ok (.aload_n 0, 1) := by decide +kernel
theorem dX4_readBond_68 : decode cX4_readBond 68 = .ok (.invokevirtual 69, 3) := by decide +kernel
theorem dX4_readBond_71 : decode cX4_readBond 71 = .ok (.ifCond .ne 5, 3) := by decide +kernel
theorem dX4_readBond_74 : decode cX4_readBond 74 = .ok (.iconst 0, 1) := by decide +kernel
theorem dX4_readBond_75 : decode cX4_readBond 75 = .ok (.ireturn, 1) := by decide +kernel
theorem dX4_readBond_76 : decode cX4_readBond 76 = .ok (.aload_n 1, 1) := by decide +kernel
theorem dX4_readBond_77 : decode cX4_readBond 77 = .ok (.dup, 1) := by decide +kernel
theorem dX4_readBond_78 : decode cX4_readBond 78 = .ok (.getfield 136, 3) := by decide +kernel
theorem dX4_readBond_81 : decode cX4_readBond 81 = .ok (.iconst 1, 1) := by decide +kernel
theorem dX4_readBond_82 : decode cX4_readBond 82 = .ok (.iadd, 1) := by decide +kernel
theorem dX4_readBond_83 : decode cX4_readBond 83 = .ok (.putfield 136, 3) := by decide +kernel
theorem dX4_readBond_86 : decode cX4_readBond 86 = .ok (.iload_n 2, 1) := by decide +kernel
theorem dX4_readBond_87 : decode cX4_readBond 87 = .ok (.ifCond .eq 13, 3) := by decide +kernel
theorem dX4_readBond_90 : decode cX4_readBond 90 = .ok (.aload_n 1, 1) := by decide +kernel
theorem dX4_readBond_91 : decode cX4_readBond 91 = .ok (.iload_n 3, 1) := by decide +kernel
theorem dX4_readBond_92 : decode cX4_readBond 92 = .ok (.iload 4, 2) := by decide +kernel
theorem dX4_readBond_94 : decode cX4_readBond 94 = .ok (.invokevirtual 139, 3) := by decide +kernel
theorem dX4_readBond_97 : decode cX4_readBond 97 = .ok (.goto 28, 3) := by decide +kernel
theorem dX4_readBond_100 : decode cX4_readBond 100 = .ok (.aload_n 1, 1) := by decide +kernel
theorem dX4_readBond_101 : decode cX4_readBond 101 = .ok (.getfield 85, 3) := by decide +kernel
theorem dX4_readBond_104 : decode cX4_readBond 104 = .ok (.iconst 1, 1) := by decide +kernel
theorem dX4_readBond_105 : decode cX4_readBond 105 = .ok (.if_icmp .ne 13, 3) := by decide +kernel
theorem dX4_readBond_108 : decode cX4_readBond 108 = .ok (.aload_n 1, 1) := by decide +kernel
theorem dX4_readBond_109 : decode cX4_readBond 109 = .ok (.iload_n 3, 1) := by decide +kernel
theorem dX4_readBond_110 : decode cX4_readBond 110 = .ok (.iload 4, 2) := by decide +kernel
theorem dX4_readBond_112 : decode cX4_readBond 112 = .ok (.invokevirtual 143, 3) := by decide +kernel
theorem dX4_readBond_115 : decode cX4_readBond 115 = .ok (.goto 10, 3) := by decide +kernel
theorem dX4_readBond_118 : decode cX4_readBond 118 = .ok (.aload_n 1, 1) := by decide +kernel
theorem dX4_readBond_119 : decode cX4_readBond 119 = .ok (.iload 4, 2) := by decide +kernel
theorem dX4_readBond_121 : decode cX4_readBond 121 = .ok (.iload_n 3, 1) := by decide +kernel
theorem dX4_readBond_122 : decode cX4_readBond 122 = .ok (.invokevirtual 143, 3) := by decide +kernel
theorem dX4_readBond_125 : decode cX4_readBond 125 = .ok (.iconst 1, 1) := by decide +kernel
theorem dX4_readBond_126 : decode cX4_readBond 126 = .ok (.ireturn, 1) := by decide +kernel
theorem dX4_readNumber_0 : decode cX4_readNumber 0 = .ok (.aload_n 0, 1) := by decide +kernel
theorem dX4_readNumber_1 : decode cX4_readNumber 1 = .ok (.getfield 31, 3) := by decide +kernel
theorem dX4_readNumber_4 : decode cX4_readNumber 4 = .ok (.iconst 2, 1) := by decide +kernel
theorem dX4_readNumber_5 : decode cX4_readNumber 5 = .ok (.if_icmp .eq 12, 3) := by decide +kernel
theorem dX4_readNumber_8 : decode cX4_readNumber 8 = .ok (.aload_n 0, 1) := by decide +kernel
theorem dX4_readNumber_9 : decode cX4_readNumber 9 = .ok (.iconst 1, 1) := by decide +kernel
theorem dX4_readNumber_10 : decode cX4_readNumber 10 = .ok (.invokevirtual 52, 3) := by decide +kernel
theorem dX4_readNumber_13 : decode cX4_readNumber 13 = .ok (.pop, 1) := by decide +kernel
theorem dX4_readNumber_14 : decode cX4_readNumber 14 = .ok (.goto 33, 3) := by decide +kernel
theorem dX4_readNumber_17 : decode cX4_readNumber 17 = .ok (.aload_n 0, 1) := by decide +kernel
theorem dX4_readNumber_18 : decode cX4_readNumber 18 = .ok (.getfield 146, 3) := by decide +kernel
theorem dX4_readNumber_21 : decode cX4_readNumber 21 = .ok (.iconst 4, 1) := by decide +kernel
theorem dX4_readNumber_22 : decode cX4_readNumber 22 = .ok (.if_icmp .gt 19, 3) := by decide +kernel
theorem dX4_readNumber_25 : decode cX4_readNumber 25 = .ok (.aload_n 0, 1) := by decide +kernel
theorem dX4_readNumber_26 : decode cX4_readNumber 26 = .ok (.getfield 149, 3) := by decide +kernel
theorem dX4_readNumber_29 : decode cX4_readNumber 29 = .ok (.iload_n 1, 1) := by decide +kernel
theorem dX4_readNumber_30 : decode cX4_readNumber 30 = .ok (.if_icmp .lt 11, 3) := by decide +kernel
theorem dX4_readNumber_33 : decode cX4_readNumber 33 = .ok (.aload_n 0, 1) := by decide +kernel
theorem dX4_readNumber_34 : decode cX4_readNumber 34 = .ok (.getfield 149, 3) := by decide +kernel
theorem dX4_readNumber_37 : decode cX4_readNumber 37 = .ok (.iload_n 2, 1) := by decide +kernel
theorem dX4_readNumber_38 : decode cX4_readNumber 38 = .ok (.if_icmp .le 9, 3) := by decide +kernel
theorem dX4_readNumber_41 : decode cX4_readNumber 41 = .ok (.aload_n 0, 1) := by decide +kernel
theorem dX4_readNumber_42 : decode cX4_readNumber 42 = .ok (.iconst 2, 1) := by decide +kernel
theorem dX4_readNumber_43 : decode cX4_readNumber 43 = .ok (.invokevirtual 52, 3) := by decide +kernel
theorem dX4_readNumber_46 : decode cX4_readNumber 46 = .ok (.pop, 1) := by decide +kernel
theorem dX4_readNumber_47 : decode cX4_readNumber 47 = .ok (.aload_n 0, 1) := by decide +kernel
theorem dX4_readNumber_48 : decode cX4_readNumber 48 = .ok (.getfield 149, 3) := by decide +kernel
theorem dX4_readNumber_51 : decode cX4_readNumber 51 = .ok (.istore_n 3, 1) := by decide +kernel
theorem dX4_readNumber_52 : decode cX4_readNumber 52 = .ok (.aload_n 0, 1) := by decide +kernel
theorem dX4_readNumber_53 : decode cX4_readNumber 53 = .ok (.getfield 22, 3) := by decide +kernel
theorem dX4_readNumber_56 : decode cX4_readNumber 56 = .ok (.ifCond .ne 7, 3) := by decide +kernel
theorem dX4_readNumber_59 : decode cX4_readNumber 59 = .ok (.aload_n 0, 1) := by decide +kernel
theorem dX4_readNumber_60 : decode cX4_readNumber 60 = .ok (.invokevirtual 28, 3) := by decide +kernel
theorem dX4_readNumber_63 : decode cX4_readNumber 63 = .ok (.iload_n 3, 1) := by decide +kernel
theorem dX4_readNumber_64 : decode cX4_readNumber 64 = .ok (.ireturn, 1) := by decide +kernel
theorem dX4_readMember_0 : decode cX4_readMember 0 = .ok (.aload_n 0, 1) := by decide +kernel
theorem dX4_readMember_1 : decode cX4_readMember 1 = .ok (.getfield 31, 3) := by decide +kernel
theorem dX4_readMember_4 : decode cX4_readMember 4 = .ok (.iconst 2, 1) := by decide +kernel
theorem dX4_readMember_5 : decode cX4_readMember 5 = .ok (.if_icmp .eq 12, 3) := by decide +kernel
theorem dX4_readMember_8 : decode cX4_readMember 8 = .ok (.aload_n 0, 1) := by decide +kernel
theorem dX4_readMember_9 : decode cX4_readMember 9 = .ok (.iconst 1, 1) := by decide +kernel
theorem dX4_readMember_10 : decode cX4_readMember 10 = .ok (.invokevirtual 52, 3) := by decide +kernel
theorem dX4_readMember_13 : decode cX4_readMember 13 = .ok (.pop, 1) := by decide +kernel
theorem dX4_readMember_14 : decode cX4_readMember 14 = .ok (.goto 59, 3) := by decide +kernel
theorem dX4_readMember_17 : decode cX4_readMember 17 = .ok (.aload_n 0, 1) := by decide +kernel
theorem dX4_readMember_18 : decode cX4_readMember 18 = .ok (.getfield 146, 3) := by decide +kernel
theorem dX4_readMember_21 : decode cX4_readMember 21 = .ok (.iconst 4, 1) := by decide +kernel
theorem dX4_readMember_22 : decode cX4_readMember 22 = .ok (.if_icmp .le 12, 3) := by decide +kernel
theorem dX4_readMember_25 : decode cX4_readMember 25 = .ok (.aload_n 0, 1) := by decide +kernel
theorem dX4_readMember_26 : decode cX4_readMember 26 = .ok (.iconst 2, 1) := by decide +kernel
theorem dX4_readMember_27 : decode cX4_readMember 27 = .ok (.invokevirtual 52, 3) := by decide +kernel
theorem dX4_readMember_30 : decode cX4_readMember 30 = .ok (.pop, 1) := by decide +kernel
theorem dX4_readMember_31 : decode cX4_readMember 31 = .ok (.goto 42, 3) := by decide +kernel
theorem dX4_readMember_34 : decode cX4_readMember 34 = .ok (.aload_n 0, 1) := by decide +kernel
theorem dX4_readMember_35 : decode cX4_readMember 35 = .ok (.getfield 149, 3) := by decide +kernel
theorem dX4_readMember_38 : decode cX4_readMember 38 = .ok (.iload_n 1, 1) := by decide +kernel
theorem dX4_readMember_39 : decode cX4_readMember 39 = .ok (.if_icmp .lt 12, 3) := by decide +kernel
theorem dX4_readMember_42 : decode cX4_readMember 42 = .ok (.aload_n 0, 1) := by decide +kernel
theorem dX4_readMember_43 : decode cX4_readMember 43 = .ok (.iconst 3, 1) := by decide +kernel
theorem dX4_readMember_44 : decode cX4_readMember 44 = .ok (.invokevirtual 52, 3) := by decide +kernel
theorem dX4_readMember_47 : decode cX4_readMember 47 = .ok (.pop, 1) := by decide +kernel
theorem dX4_readMember_48 : decode cX4_readMember 48 = .ok (.goto 25, 3) := by decide +kernel
theorem dX4_readMember_51 : decode cX4_readMember 51 = .ok (.aload_n 0, 1) := by decide +kernel
theorem dX4_readMember_52 : decode cX4_readMember 52 = .ok (.getfield 149, 3) := by decide +kernel
theorem dX4_readMember_55 : decode cX4_readMember 55 = .ok (.iload_n 2, 1) := by decide +kernel
theorem dX4_readMember_56 : decode cX4_readMember 56 = .ok (.if_icmp .le 11, 3) := by decide +kernel
theorem dX4_readMember_59 : decode cX4_readMember 59 = .ok (.aload_n 0, 1) := by decide +kernel
theorem dX4_readMember_60 : decode cX4_readMember 60 = .ok (.getfield 149, 3) := by decide +kernel
theorem dX4_readMember_63 : decode cX4_readMember 63 = .ok (.iload_n 3, 1) := by decide +kernel
theorem dX4_readMember_64 : decode cX4_readMember 64 = .ok (.if_icmp .ne 9, 3) := by decide +kernel
theorem dX4_readMember_67 : decode cX4_readMember 67 = .ok (.aload_n 0, 1) := by decide +kernel
theorem dX4_readMember_68 : decode cX4_readMember 68 = .ok (.iconst 4, 1) := by decide +kernel
theorem dX4_readMember_69 : decode cX4_readMember 69 = .ok (.invokevirtual 52, 3) := by decide +kernel
theorem dX4_readMember_72 : decode cX4_readMember 72 = .ok (.pop, 1) := by decide +kernel
theorem dX4_readMember_73 : decode cX4_readMember 73 = .ok (.aload_n 0, 1) := by decide +kernel
theorem dX4_readMember_74 : decode cX4_readMember 74 = .ok (.getfield 149, 3) := by decide +kernel
theorem dX4_readMember_77 : decode cX4_readMember 77 = .ok (.istore 4, 2) := by decide +kernel
theorem dX4_readMember_79 : decode cX4_readMember 79 = .ok (.aload_n 0, 1) := by decide +kernel
theorem dX4_readMember_80 : decode cX4_readMember 80 = .ok (.getfield 22, 3) := by decide +kernel
theorem dX4_readMember_83 : decode cX4_readMember 83 = .ok (.ifCond .ne 7, 3) := by decide +kernel
theorem dX4_readMember_86 : decode cX4_readMember 86 = .ok (.aload_n 0, 1) := by decide +kernel
theorem dX4_readMember_87 : decode cX4_readMember 87 = .ok (.invokevirtual 28, 3) := by decide +kernel
theorem dX4_readMember_90 : decode cX4_readMember 90 = .ok (.iload 4, 2) := by decide +kernel
theorem dX4_readMember_92 : decode cX4_readMember 92 = .ok (.ireturn, 1) := by decide +kernel
theorem dX4_readSign_0 : decode cX4_readSign 0 = .ok (.aload_n 0, 1) := by decide +kernel
theorem dX4_readSign_1 : decode cX4_readSign 1 = .ok (.getfield 31, 3) := by decide +kernel
theorem dX4_readSign_4 : decode cX4_readSign 4 = .ok (.iconst 3, 1) := by decide +kernel
theorem dX4_readSign_5 : decode cX4_readSign 5 = .ok (.if_icmp .eq 9, 3) := by decide +kernel
theorem dX4_readSign_8 : decode cX4_readSign 8 = .ok (.aload_n 0, 1) := by decide +kernel
theorem dX4_readSign_9 : decode cX4_readSign 9 = .ok (.iconst 1, 1) := by decide +kernel
theorem dX4_readSign_10 : decode cX4_readSign 10 = .ok (.invokevirtual 52, 3) := by decide +kernel
theorem dX4_readSign_13 : decode cX4_readSign 13 = .ok (.ireturn, 1) := by decide +kernel
theorem dX4_readSign_14 : decode cX4_readSign 14 = .ok (.aload_n 0, 1) := by decide +kernel
theorem dX4_readSign_15 : decode cX4_readSign 15 = .ok (.invokevirtual 28, 3) := by decide +kernel
theorem dX4_readSign_18 : decode cX4_readSign 18 = .ok (.iconst 1, 1) := by decide +kernel
theorem dX4_readSign_19 : decode cX4_readSign 19 = .ok (.ireturn, 1) := by decide +kernel
theorem dX4_fail_0 : decode cX4_fail 0 = .ok (.aload_n 0, 1) := by decide +kernel
theorem dX4_fail_1 : decode cX4_fail 1 = .ok (.iload_n 1, 1) := by decide +kernel
theorem dX4_fail_2 : decode cX4_fail 2 = .ok (.putfield 22, 3) := by decide +kernel
theorem dX4_fail_5 : decode cX4_fail 5 = .ok (.iconst 0, 1) := by decide +kernel
theorem dX4_fail_6 : decode cX4_fail 6 = .ok (.ireturn, 1) := by decide +kernel
theorem dX4_isWord_0 : decode cX4_isWord 0 = .ok (.aload_n 0, 1) := by decide +kernel
theorem dX4_isWord_1 : decode cX4_isWord 1 = .ok (.getfield 31, 3) := by decide +kernel
theorem dX4_isWord_4 : decode cX4_isWord 4 = .ok (.iconst 1, 1) := by decide +kernel
theorem dX4_isWord_5 : decode cX4_isWord 5 = .ok (.if_icmp .ne 19, 3) := by decide +kernel
theorem dX4_isWord_8 : decode cX4_isWord 8 = .ok (.aload_n 0, 1) := by decide +kernel
theorem dX4_isWord_9 : decode cX4_isWord 9 = .ok (.getfield 19, 3) := by decide +kernel
theorem dX4_isWord_12 : decode cX4_isWord 12 = .ok (.aload_n 0, 1) := by decide +kernel
theorem dX4_isWord_13 : decode cX4_isWord 13 = .ok (.getfield 152, 3) := by decide +kernel
theorem dX4_isWord_16 : decode cX4_isWord 16 = .ok (.isub, 1) := by decide +kernel
theorem dX4_isWord_17 : decode cX4_isWord 17 = .ok (.aload_n 1, 1) := by decide +kernel
theorem dX4_isWord_18 : decode cX4_isWord 18 = .ok (.invokevirtual 155, 3) := by decide +kernel
theorem dX4_isWord_21 : decode cX4_isWord 21 = .ok (.if_icmp .eq 5, 3) := by decide +kernel
theorem dX4_isWord_24 : decode cX4_isWord 24 = .ok (.iconst 0, 1) := by decide +kernel
theorem dX4_isWord_25 : decode cX4_isWord 25 = .ok (.ireturn, 1) := by decide +kernel
theorem dX4_isWord_26 : decode cX4_isWord 26 = .ok (.iconst 0, 1) := by decide +kernel
theorem dX4_isWord_27 : decode cX4_isWord 27 = .ok (.istore_n 2, 1) := by decide +kernel
theorem dX4_isWord_28 : decode cX4_isWord 28 = .ok (.iload_n 2, 1) := by decide +kernel
theorem dX4_isWord_29 : decode cX4_isWord 29 = .ok (.aload_n 1, 1) := by decide +kernel
theorem dX4_isWord_30 : decode cX4_isWord 30 = .ok (.invokevirtual 155, 3) := by decide +kernel
theorem dX4_isWord_33 : decode cX4_isWord 33 = .ok (.if_icmp .ge 32, 3) := by decide +kernel
theorem dX4_isWord_36 : decode cX4_isWord 36 = .ok (.aload_n 0, 1) := by decide +kernel
theorem dX4_isWord_37 : decode cX4_isWord 37 = .ok (.getfield 9, 3) := by decide +kernel
theorem dX4_isWord_40 : decode cX4_isWord 40 = .ok (.aload_n 0, 1) := by decide +kernel
theorem dX4_isWord_41 : decode cX4_isWord 41 = .ok (.getfield 152, 3) := by decide +kernel
theorem dX4_isWord_44 : decode cX4_isWord 44 = .ok (.iload_n 2, 1) := by decide +kernel
theorem dX4_isWord_45 : decode cX4_isWord 45 = .ok (.iadd, 1) := by decide +kernel
theorem dX4_isWord_46 : decode cX4_isWord 46 = .ok (.invokevirtual 159, 3) := by decide +kernel
theorem dX4_isWord_49 : decode cX4_isWord 49 = .ok (.aload_n 1, 1) := by decide +kernel
theorem dX4_isWord_50 : decode cX4_isWord 50 = .ok (.iload_n 2, 1) := by decide +kernel
theorem dX4_isWord_51 : decode cX4_isWord 51 = .ok (.invokevirtual 165, 3) := by decide +kernel
theorem dX4_isWord_54 : decode cX4_isWord 54 = .ok (.if_icmp .eq 5, 3) := by decide +kernel
theorem dX4_isWord_57 : decode cX4_isWord 57 = .ok (.iconst 0, 1) := by decide +kernel
theorem dX4_isWord_58 : decode cX4_isWord 58 = .ok (.ireturn, 1) := by decide +kernel
theorem dX4_isWord_59 : decode cX4_isWord 59 = .ok (.iinc 2 1, 3) := by decide +kernel
theorem dX4_isWord_62 : decode cX4_isWord 62 = .ok (.goto (-34), 3) := by decide +kernel
theorem dX4_isWord_65 : decode cX4_isWord 65 = .ok (.iconst 1, 1) := by decide +kernel
theorem dX4_isWord_66 : decode cX4_isWord 66 = .ok (.ireturn, 1) := by decide +kernel
theorem dX4_advance_0 : decode cX4_advance 0 = .ok (.aload_n 0, 1) := by decide +kernel
theorem dX4_advance_1 : decode cX4_advance 1 = .ok (.getfield 19, 3) := by decide +kernel
theorem dX4_advance_4 : decode cX4_advance 4 = .ok (.aload_n 0, 1) := by decide +kernel
theorem dX4_advance_5 : decode cX4_advance 5 = .ok (.getfield 15, 3) := by decide +kernel
theorem dX4_advance_8 : decode cX4_advance 8 = .ok (.if_icmp .ge 33, 3) := by decide +kernel
theorem dX4_advance_11 : decode cX4_advance 11 = .ok (.aload_n 0, 1) := by decide +kernel
theorem dX4_advance_12 : decode cX4_advance 12 = .ok (.getfield 9, 3) := by decide +kernel
theorem dX4_advance_15 : decode cX4_advance 15 = .ok (.aload_n 0, 1) := by decide +kernel
theorem dX4_advance_16 : decode cX4_advance 16 = .ok (.getfield 19, 3) := by decide +kernel
theorem dX4_advance_19 : decode cX4_advance 19 = .ok (.invokevirtual 159, 3) := by decide +kernel
theorem dX4_advance_22 : decode cX4_advance 22 = .ok (.invokestatic 169, 3) := by decide +kernel
theorem dX4_advance_25 : decode cX4_advance 25 = .ok (.ifCond .eq 16, 3) := by decide +kernel
theorem dX4_advance_28 : decode cX4_advance 28 = .ok (.aload_n 0, 1) := by decide +kernel
theorem dX4_advance_29 : decode cX4_advance 29 = .ok (.dup, 1) := by decide +kernel
theorem dX4_advance_30 : decode cX4_advance 30 = .ok (.getfield 19, 3) := by decide +kernel
theorem dX4_advance_33 : decode cX4_advance 33 = .ok (.iconst 1, 1) := by decide +kernel
theorem dX4_advance_34 : decode cX4_advance 34 = .ok (.iadd, 1) := by decide +kernel
theorem dX4_advance_35 : decode cX4_advance 35 = .ok (.putfield 19, 3) := by decide +kernel
theorem dX4_advance_38 : decode cX4_advance 38 = .ok (.goto (-38), 3) := by decide +kernel
theorem dX4_advance_41 : decode cX4_advance 41 = .ok (.aload_n 0, 1) := by decide +kernel
theorem dX4_advance_42 : decode cX4_advance 42 = .ok (.aload_n 0, 1) := by decide +kernel
theorem dX4_advance_43 : decode cX4_advance 43 = .ok (.getfield 19, 3) := by decide +kernel
theorem dX4_advance_46 : decode cX4_advance 46 = .ok (.putfield 152, 3) := by decide +kernel
theorem dX4_advance_49 : decode cX4_advance 49 = .ok (.aload_n 0, 1) := by decide +kernel
theorem dX4_advance_50 : decode cX4_advance 50 = .ok (.iconst 0, 1) := by decide +kernel
theorem dX4_advance_51 : decode cX4_advance 51 = .ok (.putfield 146, 3) := by decide +kernel
theorem dX4_advance_54 : decode cX4_advance 54 = .ok (.aload_n 0, 1) := by decide +kernel
theorem dX4_advance_55 : decode cX4_advance 55 = .ok (.iconst 0, 1) := by decide +kernel
theorem dX4_advance_56 : decode cX4_advance 56 = .ok (.putfield 149, 3) := by decide +kernel
theorem dX4_advance_59 : decode cX4_advance 59 = .ok (.aload_n 0, 1) := by decide +kernel
theorem dX4_advance_60 : decode cX4_advance 60 = .ok (.aload_n 0, 1) := by decide +kernel
theorem dX4_advance_61 : decode cX4_advance 61 = .ok (.getfield 19, 3) := by decide +kernel
theorem dX4_advance_64 : decode cX4_advance 64 = .ok (.aload_n 0, 1) := by decide +kernel
theorem dX4_advance_65 : decode cX4_advance 65 = .ok (.getfield 15, 3) := by decide +kernel
theorem dX4_advance_68 : decode cX4_advance 68 = .ok (.if_icmp .ge 20, 3) := by decide +kernel
theorem dX4_advance_71 : decode cX4_advance 71 = .ok (.aload_n 0, 1) := by decide +kernel
theorem dX4_advance_72 : decode cX4_advance 72 = .ok (.getfield 9, 3) := by decide +kernel
theorem dX4_advance_75 : decode cX4_advance 75 = .ok (.aload_n 0, 1) := by decide +kernel
theorem dX4_advance_76 : decode cX4_advance 76 = .ok (.getfield 19, 3) := by decide +kernel
theorem dX4_advance_79 : decode cX4_advance 79 = .ok (.invokevirtual 159, 3) := by decide +kernel
theorem dX4_advance_82 : decode cX4_advance 82 = .ok (.invokestatic 172, 3) := by decide +kernel
theorem dX4_advance_85 : decode cX4_advance 85 = .ok (.goto 4, 3) := by decide +kernel
theorem dX4_advance_88 : decode cX4_advance 88 = .ok (.iconst 0, 1) := by decide +kernel
theorem dX4_advance_89 : decode cX4_advance 89 = .ok (.putfield 31, 3) := by decide +kernel
theorem dX4_advance_92 : decode cX4_advance 92 = .ok (.aload_n 0, 1) := by decide +kernel
theorem dX4_advance_93 : decode cX4_advance 93 = .ok (.getfield 19, 3) := by decide +kernel
theorem dX4_advance_96 : decode cX4_advance 96 = .ok (.aload_n 0, 1) := by decide +kernel
theorem dX4_advance_97 : decode cX4_advance 97 = .ok (.getfield 15, 3) := by decide +kernel
theorem dX4_advance_100 : decode cX4_advance 100 = .ok (.if_icmp .ge 7, 3) := by decide +kernel
theorem dX4_advance_103 : decode cX4_advance 103 = .ok (.iconst 1, 1) := by decide +kernel
theorem dX4_advance_104 : decode cX4_advance 104 = .ok (.goto 4, 3) := by decide +kernel
theorem dX4_advance_107 : decode cX4_advance 107 = .ok (.iconst 0, 1) := by decide +kernel
theorem dX4_advance_108 : decode cX4_advance 108 = .ok (.istore_n 1, 1) := by decide +kernel
theorem dX4_advance_109 : decode cX4_advance 109 = .ok (.aload_n 0, 1) := by decide +kernel
theorem dX4_advance_110 : decode cX4_advance 110 = .ok (.getfield 19, 3) := by decide +kernel
theorem dX4_advance_113 : decode cX4_advance 113 = .ok (.aload_n 0, 1) := by decide +kernel
theorem dX4_advance_114 : decode cX4_advance 114 = .ok (.getfield 15, 3) := by decide +kernel
theorem dX4_advance_117 : decode cX4_advance 117 = .ok (.if_icmp .ge 89, 3) := by decide +kernel
theorem dX4_advance_120 : decode cX4_advance 120 = .ok (.iload_n 1, 1) := by decide +kernel
theorem dX4_advance_121 : decode cX4_advance 121 = .ok (.ifCond .eq 85, 3) := by decide +kernel
theorem dX4_advance_124 : decode cX4_advance 124 = .ok (.aload_n 0, 1) := by decide +kernel
theorem dX4_advance_125 : decode cX4_advance 125 = .ok (.getfield 31, 3) := by decide +kernel
theorem dX4_advance_128 : decode cX4_advance 128 = .ok (.iconst 2, 1) := by decide +kernel
theorem dX4_advance_129 : decode cX4_advance 129 = .ok (.if_icmp .ne 21, 3) := by decide +kernel
theorem dX4_advance_132 : decode cX4_advance 132 = .ok (.aload_n 0, 1) := by decide +kernel
theorem dX4_advance_133 : decode cX4_advance 133 = .ok (.aload_n 0, 1) := by decide +kernel
theorem dX4_advance_134 : decode cX4_advance 134 = .ok (.getfield 9, 3) := by decide +kernel
theorem dX4_advance_137 : decode cX4_advance 137 = .ok (.aload_n 0, 1) := by decide +kernel
theorem dX4_advance_138 : decode cX4_advance 138 = .ok (.getfield 19, 3) := by decide +kernel
theorem dX4_advance_141 : decode cX4_advance 141 = .ok (.invokevirtual 159, 3) := by decide +kernel
theorem dX4_advance_144 : decode cX4_advance 144 = .ok (.bipush 48, 2) := by decide +kernel
theorem dX4_advance_146 : decode cX4_advance 146 = .ok (.isub, 1) := by decide +kernel
theorem dX4_advance_147 : decode cX4_advance 147 = .ok (.invokevirtual 175, 3) := by decide +kernel
theorem dX4_advance_150 : decode cX4_advance 150 = .ok (.aload_n 0, 1) := by decide +kernel
theorem dX4_advance_151 : decode cX4_advance 151 = .ok (.dup, 1) := by decide +kernel
theorem dX4_advance_152 : decode cX4_advance 152 = .ok (.getfield 19, 3) := by decide +kernel
theorem dX4_advance_155 : decode cX4_advance 155 = .ok (.iconst 1, 1) := by decide +kernel
theorem dX4_advance_156 : decode cX4_advance 156 = .ok (.iadd, 1) := by decide +kernel
theorem dX4_advance_157 : decode cX4_advance 157 = .ok (.putfield 19, 3) := by decide +kernel
theorem dX4_advance_160 : decode cX4_advance 160 = .ok (.aload_n 0, 1) := by decide +kernel
theorem dX4_advance_161 : decode cX4_advance 161 = .ok (.getfield 31, 3) := by decide +kernel
theorem dX4_advance_164 : decode cX4_advance 164 = .ok (.iconst 1, 1) := by decide +kernel
theorem dX4_advance_165 : decode cX4_advance 165 = .ok (.if_icmp .eq 11, 3) := by decide +kernel
theorem dX4_advance_168 : decode cX4_advance 168 = .ok (.aload_n 0, 1) := by decide +kernel
theorem dX4_advance_169 : decode cX4_advance 169 = .ok (.getfield 31, 3) := by decide +kernel
theorem dX4_advance_172 : decode cX4_advance 172 = .ok (.iconst 2, 1) := by decide +kernel
theorem dX4_advance_173 : decode cX4_advance 173 = .ok (.if_icmp .ne 28, 3) := by decide +kernel
theorem dX4_advance_176 : decode cX4_advance 176 = .ok (.aload_n 0, 1) := by decide +kernel
theorem dX4_advance_177 : decode cX4_advance 177 = .ok (.getfield 9, 3) := by decide +kernel
theorem dX4_advance_180 : decode cX4_advance 180 = .ok (.aload_n 0, 1) := by decide +kernel
theorem dX4_advance_181 : decode cX4_advance 181 = .ok (.getfield 19, 3) := by decide +kernel
theorem dX4_advance_184 : decode cX4_advance 184 = .ok (.invokevirtual 159, 3) := by decide +kernel
theorem dX4_advance_187 : decode cX4_advance 187 = .ok (.invokestatic 172, 3) := by decide +kernel
theorem dX4_advance_190 : decode cX4_advance 190 = .ok (.aload_n 0, 1) := by decide +kernel
theorem dX4_advance_191 : decode cX4_advance 191 = .ok (.getfield 31, 3) := by decide +kernel
theorem dX4_advance_194 : decode cX4_advance 194 = .ok (.if_icmp .ne 7, 3) := by decide +kernel
theorem dX4_advance_197 : decode cX4_advance 197 = .ok (.iconst 1, 1) := by decide +kernel
theorem dX4_advance_198 : decode cX4_advance 198 = .ok (.goto 4, 3) := by decide +kernel
theorem dX4_advance_201 : decode cX4_advance 201 = .ok (.iconst 0, 1) := by decide +kernel
theorem dX4_advance_202 : decode cX4_advance 202 = .ok (.istore_n 1, 1) := by decide +kernel
theorem dX4_advance_203 : decode cX4_advance 203 = .ok (.goto (-94), 3) := by decide +kernel
theorem dX4_advance_206 : decode cX4_advance 206 = .ok (.return_, 1) := by decide +kernel
theorem dX4_addDigit_0 : decode cX4_addDigit 0 = .ok (.aload_n 0, 1) := by decide +kernel
theorem dX4_addDigit_1 : decode cX4_addDigit 1 = .ok (.dup, 1) := by decide +kernel
theorem dX4_addDigit_2 : decode cX4_addDigit 2 = .ok (.getfield 146, 3) := by decide +kernel
theorem dX4_addDigit_5 : decode cX4_addDigit 5 = .ok (.iconst 1, 1) := by decide +kernel
theorem dX4_addDigit_6 : decode cX4_addDigit 6 = .ok (.iadd, 1) := by decide +kernel
theorem dX4_addDigit_7 : decode cX4_addDigit 7 = .ok (.putfield 146, 3) := by decide +kernel
theorem dX4_addDigit_10 : decode cX4_addDigit 10 = .ok (.aload_n 0, 1) := by decide +kernel
theorem dX4_addDigit_11 : decode cX4_addDigit 11 = .ok (.getfield 146, 3) := by decide +kernel
theorem dX4_addDigit_14 : decode cX4_addDigit 14 = .ok (.iconst 4, 1) := by decide +kernel
theorem dX4_addDigit_15 : decode cX4_addDigit 15 = .ok (.if_icmp .gt 16, 3) := by decide +kernel
theorem dX4_addDigit_18 : decode cX4_addDigit 18 = .ok (.aload_n 0, 1) := by decide +kernel
theorem dX4_addDigit_19 : decode cX4_addDigit 19 = .ok (.aload_n 0, 1) := by decide +kernel
theorem dX4_addDigit_20 : decode cX4_addDigit 20 = .ok (.getfield 149, 3) := by decide +kernel
theorem dX4_addDigit_23 : decode cX4_addDigit 23 = .ok (.bipush 10, 2) := by decide +kernel
theorem dX4_addDigit_25 : decode cX4_addDigit 25 = .ok (.imul, 1) := by decide +kernel
theorem dX4_addDigit_26 : decode cX4_addDigit 26 = .ok (.iload_n 1, 1) := by decide +kernel
theorem dX4_addDigit_27 : decode cX4_addDigit 27 = .ok (.iadd, 1) := by decide +kernel
theorem dX4_addDigit_28 : decode cX4_addDigit 28 = .ok (.putfield 149, 3) := by decide +kernel
theorem dX4_addDigit_31 : decode cX4_addDigit 31 = .ok (.return_, 1) := by decide +kernel
theorem dX4_isBlank_0 : decode cX4_isBlank 0 = .ok (.iload_n 0, 1) := by decide +kernel
theorem dX4_isBlank_1 : decode cX4_isBlank 1 = .ok (.bipush 32, 2) := by decide +kernel
theorem dX4_isBlank_3 : decode cX4_isBlank 3 = .ok (.if_icmp .eq 9, 3) := by decide +kernel
theorem dX4_isBlank_6 : decode cX4_isBlank 6 = .ok (.iload_n 0, 1) := by decide +kernel
theorem dX4_isBlank_7 : decode cX4_isBlank 7 = .ok (.bipush 10, 2) := by decide +kernel
theorem dX4_isBlank_9 : decode cX4_isBlank 9 = .ok (.if_icmp .ne 7, 3) := by decide +kernel
theorem dX4_isBlank_12 : decode cX4_isBlank 12 = .ok (.iconst 1, 1) := by decide +kernel
theorem dX4_isBlank_13 : decode cX4_isBlank 13 = .ok (.goto 4, 3) := by decide +kernel
theorem dX4_isBlank_16 : decode cX4_isBlank 16 = .ok (.iconst 0, 1) := by decide +kernel
theorem dX4_isBlank_17 : decode cX4_isBlank 17 = .ok (.ireturn, 1) := by decide +kernel
theorem dX4_kindOf_0 : decode cX4_kindOf 0 = .ok (.iload_n 0, 1) := by decide +kernel
theorem dX4_kindOf_1 : decode cX4_kindOf 1 = .ok (.bipush 97, 2) := by decide +kernel
theorem dX4_kindOf_3 : decode cX4_kindOf 3 = .ok (.if_icmp .lt 11, 3) := by decide +kernel
theorem dX4_kindOf_6 : decode cX4_kindOf 6 = .ok (.iload_n 0, 1) := by decide +kernel
theorem dX4_kindOf_7 : decode cX4_kindOf 7 = .ok (.bipush 122, 2) := by decide +kernel
theorem dX4_kindOf_9 : decode cX4_kindOf 9 = .ok (.if_icmp .gt 5, 3) := by decide +kernel
theorem dX4_kindOf_12 : decode cX4_kindOf 12 = .ok (.iconst 1, 1) := by decide +kernel
theorem dX4_kindOf_13 : decode cX4_kindOf 13 = .ok (.ireturn, 1) := by decide +kernel
theorem dX4_kindOf_14 : decode cX4_kindOf 14 = .ok (.iload_n 0, 1) := by decide +kernel
theorem dX4_kindOf_15 : decode cX4_kindOf 15 = .ok (.bipush 48, 2) := by decide +kernel
theorem dX4_kindOf_17 : decode cX4_kindOf 17 = .ok (.if_icmp .lt 11, 3) := by decide +kernel
theorem dX4_kindOf_20 : decode cX4_kindOf 20 = .ok (.iload_n 0, 1) := by decide +kernel
theorem dX4_kindOf_21 : decode cX4_kindOf 21 = .ok (.bipush 57, 2) := by decide +kernel
theorem dX4_kindOf_23 : decode cX4_kindOf 23 = .ok (.if_icmp .gt 5, 3) := by decide +kernel
theorem dX4_kindOf_26 : decode cX4_kindOf 26 = .ok (.iconst 2, 1) := by decide +kernel
theorem dX4_kindOf_27 : decode cX4_kindOf 27 = .ok (.ireturn, 1) := by decide +kernel
theorem dX4_kindOf_28 : decode cX4_kindOf 28 = .ok (.iload_n 0, 1) := by decide +kernel
theorem dX4_kindOf_29 : decode cX4_kindOf 29 = .ok (.bipush 59, 2) := by decide +kernel
theorem dX4_kindOf_31 : decode cX4_kindOf 31 = .ok (.if_icmp .ne 7, 3) := by decide +kernel
theorem dX4_kindOf_34 : decode cX4_kindOf 34 = .ok (.iconst 3, 1) := by decide +kernel
theorem dX4_kindOf_35 : decode cX4_kindOf 35 = .ok (.goto 4, 3) := by decide +kernel
theorem dX4_kindOf_38 : decode cX4_kindOf 38 = .ok (.iconst 4, 1) := by decide +kernel
theorem dX4_kindOf_39 : decode cX4_kindOf 39 = .ok (.ireturn, 1) := by decide +kernel
theorem dX5_init_0 : decode cX5_init 0 = .ok (.aload_n 0, 1) := by decide +kernel
theorem dX5_init_1 : decode cX5_init 1 = .ok (.invokespecial 3, 3) := by decide +kernel
theorem dX5_init_4 : decode cX5_init 4 = .ok (.aload_n 0, 1) := by decide +kernel
theorem dX5_init_5 : decode cX5_init 5 = .ok (.bipush 12, 2) := by decide +kernel
theorem dX5_init_7 : decode cX5_init 7 = .ok (.newarray .int, 2) := by decide +kernel
theorem dX5_init_9 : decode cX5_init 9 = .ok (.putfield 9, 3) := by decide +kernel
theorem dX5_init_12 : decode cX5_init 12 = .ok (.aload_n 0, 1) := by decide +kernel
theorem dX5_init_13 : decode cX5_init 13 = .ok (.bipush 12, 2) := by decide +kernel
theorem dX5_init_15 : decode cX5_init 15 = .ok (.newarray .int, 2) := by decide +kernel
theorem dX5_init_17 : decode cX5_init 17 = .ok (.putfield 15, 3) := by decide +kernel
theorem dX5_init_20 : decode cX5_init 20 = .ok (.return_, 1) := by decide +kernel
theorem dX5_seek_0 : decode cX5_seek 0 = .ok (.aload_n 0, 1) := by decide +kernel
theorem dX5_seek_1 : decode cX5_seek 1 = .ok (.aload_n 1, 1) := by decide +kernel
theorem dX5_seek_2 : decode cX5_seek 2 = .ok (.invokevirtual 18, 3) := by decide +kernel
theorem dX5_seek_5 : decode cX5_seek 5 = .ok (.aload_n 0, 1) := by decide +kernel
theorem dX5_seek_6 : decode cX5_seek 6 = .ok (.aload_n 1, 1) := by decide +kernel
theorem dX5_seek_7 : decode cX5_seek 7 = .ok (.invokevirtual 22, 3) := by decide +kernel
theorem dX5_seek_10 : decode cX5_seek 10 = .ok (.aload_n 0, 1) := by decide +kernel
theorem dX5_seek_11 : decode cX5_seek 11 = .ok (.iconst (-1), 1) := by decide +kernel
theorem dX5_seek_12 : decode cX5_seek 12 = .ok (.putfield 25, 3) := by decide +kernel
theorem dX5_seek_15 : decode cX5_seek 15 = .ok (.iconst 0, 1) := by decide +kernel
theorem dX5_seek_16 : decode cX5_seek 16 = .ok (.istore_n 2, 1) := by decide +kernel
theorem dX5_seek_17 : decode cX5_seek 17 = .ok (.iload_n 2, 1) := by decide +kernel
theorem dX5_seek_18 : decode cX5_seek 18 = .ok (.aload_n 1, 1) := by decide +kernel
theorem dX5_seek_19 : decode cX5_seek 19 = .ok (.getfield 29, 3) := by decide +kernel
theorem dX5_seek_22 : decode cX5_seek 22 = .ok (.if_icmp .ge 71, 3) := by decide +kernel
theorem dX5_seek_25 : decode cX5_seek 25 = .ok (.iload_n 2, 1) := by decide +kernel
theorem dX5_seek_26 : decode cX5_seek 26 = .ok (.iconst 1, 1) := by decide +kernel
theorem dX5_seek_27 : decode cX5_seek 27 = .ok (.iadd, 1) := by decide +kernel
theorem dX5_seek_28 : decode cX5_seek 28 = .ok (.istore_n 3, 1) := by decide +kernel
theorem dX5_seek_29 : decode cX5_seek 29 = .ok (.iload_n 3, 1) := by decide +kernel
theorem dX5_seek_30 : decode cX5_seek 30 = .ok (.aload_n 1, 1) := by decide +kernel
theorem dX5_seek_31 : decode cX5_seek 31 = .ok (.getfield 29, 3) := by decide +kernel
theorem dX5_seek_34 : decode cX5_seek 34 = .ok (.if_icmp .ge 53, 3) := by decide +kernel
theorem dX5_seek_37 : decode cX5_seek 37 = .ok (.aload_n 0, 1) := by decide +kernel
theorem dX5_seek_38 : decode cX5_seek 38 = .ok (.getfield 9, 3) := by decide +kernel
theorem dX5_seek_41 : decode cX5_seek 41 = .ok (.iload_n 2, 1) := by decide +kernel
theorem dX5_seek_42 : decode cX5_seek 42 = .ok (.invokestatic 34, 3) := by decide +kernel
theorem dX5_seek_45 : decode cX5_seek 45 = .ok (.aload_n 0, 1) := by decide +kernel
theorem dX5_seek_46 : decode cX5_seek 46 = .ok (.getfield 15, 3) := by decide +kernel
theorem dX5_seek_49 : decode cX5_seek 49 = .ok (.iload_n 3, 1) := by decide +kernel
theorem dX5_seek_50 : decode cX5_seek 50 = .ok (.invokestatic 34, 3) := by decide +kernel
theorem dX5_seek_53 : decode cX5_seek 53 = .ok (.imul, 1) := by decide +kernel
theorem dX5_seek_54 : decode cX5_seek 54 = .ok (.istore 4, 2) := by decide +kernel
theorem dX5_seek_56 : decode cX5_seek 56 = .ok (.iload 4, 2) := by decide +kernel
theorem dX5_seek_58 : decode cX5_seek 58 = .ok (.aload_n 0, 1) := by decide +kernel
theorem dX5_seek_59 : decode cX5_seek 59 = .ok (.getfield 25, 3) := by decide +kernel
theorem dX5_seek_62 : decode cX5_seek 62 = .ok (.if_icmp .le 19, 3) := by decide +kernel
theorem dX5_seek_65 : decode cX5_seek 65 = .ok (.aload_n 0, 1) := by decide +kernel
theorem dX5_seek_66 : decode cX5_seek 66 = .ok (.iload_n 2, 1) := by decide +kernel
theorem dX5_seek_67 : decode cX5_seek 67 = .ok (.putfield 38, 3) := by decide +kernel
theorem dX5_seek_70 : decode cX5_seek 70 = .ok (.aload_n 0, 1) := by decide +kernel
theorem dX5_seek_71 : decode cX5_seek 71 = .ok (.iload_n 3, 1) := by decide +kernel
theorem dX5_seek_72 : decode cX5_seek 72 = .ok (.putfield 41, 3) := by decide +kernel
theorem dX5_seek_75 : decode cX5_seek 75 = .ok (.aload_n 0, 1) := by decide +kernel
theorem dX5_seek_76 : decode cX5_seek 76 = .ok (.iload 4, 2) := by decide +kernel
theorem dX5_seek_78 : decode cX5_seek 78 = .ok (.putfield 25, 3) := by decide +kernel
theorem dX5_seek_81 : decode cX5_seek 81 = .ok (.iinc 3 1, 3) := by decide +kernel
theorem dX5_seek_84 : decode cX5_seek 84 = .ok (.goto (-55), 3) := by decide +kernel
theorem dX5_seek_87 : decode cX5_seek 87 = .ok (.iinc 2 1, 3) := by decide +kernel
theorem dX5_seek_90 : decode cX5_seek 90 = .ok (.goto (-73), 3) := by decide +kernel
theorem dX5_seek_93 : decode cX5_seek 93 = .ok (.return_, 1) := by decide +kernel
theorem dX5_countInto_0 : decode cX5_countInto 0 = .ok (.aload_n 0, 1) := by decide +kernel
theorem dX5_countInto_1 : decode cX5_countInto 1 = .ok (.getfield 9, 3) := by decide +kernel
theorem dX5_countInto_4 : decode cX5_countInto 4 = .ok (.iconst 0, 1) := by decide +kernel
theorem dX5_countInto_5 : decode cX5_countInto 5 = .ok (.invokestatic 44, 3) := by decide +kernel
theorem dX5_countInto_8 : decode cX5_countInto 8 = .ok (.aload_n 0, 1) := by decide +kernel
theorem dX5_countInto_9 : decode cX5_countInto 9 = .ok (.getfield 9, 3) := by decide +kernel
theorem dX5_countInto_12 : decode cX5_countInto 12 = .ok (.iconst 0, 1) := by decide +kernel
theorem dX5_countInto_13 : decode cX5_countInto 13 = .ok (.iconst 1, 1) := by decide +kernel
theorem dX5_countInto_14 : decode cX5_countInto 14 = .ok (.iastore, 1) := by decide +kernel
theorem dX5_countInto_15 : decode cX5_countInto 15 = .ok (.iconst 0, 1) := by decide +kernel
theorem dX5_countInto_16 : decode cX5_countInto 16 = .ok (.istore_n 2, 1) := by decide +kernel
theorem dX5_countInto_17 : decode cX5_countInto 17 = .ok (.iload_n 2, 1) := by decide +kernel
theorem dX5_countInto_18 : decode cX5_countInto 18 = .ok (.aload_n 1, 1) := by decide +kernel
theorem dX5_countInto_19 : decode cX5_countInto 19 = .ok (.getfield 29, 3) := by decide +kernel
theorem dX5_countInto_22 : decode cX5_countInto 22 = .ok (.if_icmp .ge 67, 3) := by decide +kernel
theorem dX5_countInto_25 : decode cX5_countInto 25 = .ok (.iconst 0, 1) := by decide +kernel
theorem dX5_countInto_26 : decode cX5_countInto 26 = .ok (.istore_n 3, 1) := by decide +kernel
theorem dX5_countInto_27 : decode cX5_countInto 27 = .ok (.iload_n 3, 1) := by decide +kernel
theorem dX5_countInto_28 : decode cX5_countInto 28 = .ok (.aload_n 1, 1) := by decide +kernel
theorem dX5_countInto_29 : decode cX5_countInto 29 = .ok (.getfield 50, 3) := by decide +kernel
theorem dX5_countInto_32 : decode cX5_countInto 32 = .ok (.if_icmp .ge 51, 3) := by decide +kernel
theorem dX5_countInto_35 : decode cX5_countInto 35 = .ok (.aload_n 1, 1) := by decide +kernel
theorem dX5_countInto_36 : decode cX5_countInto 36 = .ok (.iload_n 3, 1) := by decide +kernel
theorem dX5_countInto_37 : decode cX5_countInto 37 = .ok (.invokevirtual 53, 3) := by decide +kernel
theorem dX5_countInto_40 : decode cX5_countInto 40 = .ok (.iload_n 2, 1) := by decide +kernel
theorem dX5_countInto_41 : decode cX5_countInto 41 = .ok (.if_icmp .ne 36, 3) := by decide +kernel
theorem dX5_countInto_44 : decode cX5_countInto 44 = .ok (.aload_n 0, 1) := by decide +kernel
theorem dX5_countInto_45 : decode cX5_countInto 45 = .ok (.getfield 9, 3) := by decide +kernel
theorem dX5_countInto_48 : decode cX5_countInto 48 = .ok (.aload_n 1, 1) := by decide +kernel
theorem dX5_countInto_49 : decode cX5_countInto 49 = .ok (.iload_n 3, 1) := by decide +kernel
theorem dX5_countInto_50 : decode cX5_countInto 50 = .ok (.invokevirtual 57, 3) := by decide +kernel
theorem dX5_countInto_53 : decode cX5_countInto 53 = .ok (.aload_n 0, 1) := by decide +kernel
theorem dX5_countInto_54 : decode cX5_countInto 54 = .ok (.getfield 9, 3) := by decide +kernel
theorem dX5_countInto_57 : decode cX5_countInto 57 = .ok (.aload_n 1, 1) := by decide +kernel
theorem dX5_countInto_58 : decode cX5_countInto 58 = .ok (.iload_n 3, 1) := by decide +kernel
theorem dX5_countInto_59 : decode cX5_countInto 59 = .ok (.invokevirtual 57, 3) := by decide +kernel
theorem dX5_countInto_62 : decode cX5_countInto 62 = .ok (.invokestatic 34, 3) := by decide +kernel
theorem dX5_countInto_65 : decode cX5_countInto 65 = .ok (.aload_n 0, 1) := by decide +kernel
theorem dX5_countInto_66 : decode cX5_countInto 66 = .ok (.getfield 9, 3) := by decide +kernel
theorem dX5_countInto_69 : decode cX5_countInto 69 = .ok (.iload_n 2, 1) := by decide +kernel
theorem dX5_countInto_70 : decode cX5_countInto 70 = .ok (.invokestatic 34, 3) := by decide +kernel
theorem dX5_countInto_73 : decode cX5_countInto 73 = .ok (.iadd, 1) := by decide +kernel
theorem dX5_countInto_74 : decode cX5_countInto 74 = .ok (.invokestatic 60, 3) := by decide +kernel
theorem dX5_countInto_77 : decode cX5_countInto 77 = .ok (.iinc 3 1, 3) := by decide +kernel
theorem dX5_countInto_80 : decode cX5_countInto 80 = .ok (.goto (-53), 3) := by decide +kernel
theorem dX5_countInto_83 : decode cX5_countInto 83 = .ok (.iinc 2 1, 3) := by decide +kernel
theorem dX5_countInto_86 : decode cX5_countInto 86 = .ok (.goto (-69), 3) := by decide +kernel
theorem dX5_countInto_89 : decode cX5_countInto 89 = .ok (.return_, 1) := by decide +kernel
theorem dX5_countOnward_0 : decode cX5_countOnward 0 = .ok (.aload_n 0, 1) := by decide +kernel
theorem dX5_countOnward_1 : decode cX5_countOnward 1 = .ok (.getfield 15, 3) := by decide +kernel
theorem dX5_countOnward_4 : decode cX5_countOnward 4 = .ok (.iconst 0, 1) := by decide +kernel
theorem dX5_countOnward_5 : decode cX5_countOnward 5 = .ok (.invokestatic 44, 3) := by decide +kernel
theorem dX5_countOnward_8 : decode cX5_countOnward 8 = .ok (.aload_n 0, 1) := by decide +kernel
theorem dX5_countOnward_9 : decode cX5_countOnward 9 = .ok (.getfield 15, 3) := by decide +kernel
theorem dX5_countOnward_12 : decode cX5_countOnward 12 = .ok (.aload_n 1, 1) := by decide +kernel
theorem dX5_countOnward_13 : decode cX5_countOnward 13 = .ok (.getfield 29, 3) := by decide +kernel
theorem dX5_countOnward_16 : decode cX5_countOnward 16 = .ok (.iconst 1, 1) := by decide +kernel
theorem dX5_countOnward_17 : decode cX5_countOnward 17 = .ok (.isub, 1) := by decide +kernel
theorem dX5_countOnward_18 : decode cX5_countOnward 18 = .ok (.iconst 1, 1) := by decide +kernel
theorem dX5_countOnward_19 : decode cX5_countOnward 19 = .ok (.invokestatic 60, 3) := by decide +kernel
theorem dX5_countOnward_22 : decode cX5_countOnward 22 = .ok (.aload_n 1, 1) := by decide +kernel
theorem dX5_countOnward_23 : decode cX5_countOnward 23 = .ok (.getfield 29, 3) := by decide +kernel
theorem dX5_countOnward_26 : decode cX5_countOnward 26 = .ok (.iconst 1, 1) := by decide +kernel
theorem dX5_countOnward_27 : decode cX5_countOnward 27 = .ok (.isub, 1) := by decide +kernel
theorem dX5_countOnward_28 : decode cX5_countOnward 28 = .ok (.istore_n 2, 1) := by decide +kernel
theorem dX5_countOnward_29 : decode cX5_countOnward 29 = .ok (.iload_n 2, 1) := by decide +kernel
theorem dX5_countOnward_30 : decode cX5_countOnward 30 = .ok (.ifCond .lt 67, 3) := by decide +kernel
theorem dX5_countOnward_33 : decode cX5_countOnward 33 = .ok (.iconst 0, 1) := by decide +kernel
theorem dX5_countOnward_34 : decode cX5_countOnward 34 = .ok (.istore_n 3, 1) := by decide +kernel
theorem dX5_countOnward_35 : decode cX5_countOnward 35 = .ok (.iload_n 3, 1) := by decide +kernel
theorem dX5_countOnward_36 : decode cX5_countOnward 36 = .ok (.aload_n 1, 1) := by decide +kernel
theorem dX5_countOnward_37 : decode cX5_countOnward 37 = .ok (.getfield 50, 3) := by decide +kernel
theorem dX5_countOnward_40 : decode cX5_countOnward 40 = .ok (.if_icmp .ge 51, 3) := by decide +kernel
theorem dX5_countOnward_43 : decode cX5_countOnward 43 = .ok (.aload_n 1, 1) := by decide +kernel
theorem dX5_countOnward_44 : decode cX5_countOnward 44 = .ok (.iload_n 3, 1) := by decide +kernel
theorem dX5_countOnward_45 : decode cX5_countOnward 45 = .ok (.invokevirtual 57, 3) := by decide +kernel
theorem dX5_countOnward_48 : decode cX5_countOnward 48 = .ok (.iload_n 2, 1) := by decide +kernel
theorem dX5_countOnward_49 : decode cX5_countOnward 49 = .ok (.if_icmp .ne 36, 3) := by decide +kernel
theorem dX5_countOnward_52 : decode cX5_countOnward 52 = .ok (.aload_n 0, 1) := by decide +kernel
theorem dX5_countOnward_53 : decode cX5_countOnward 53 = .ok (.getfield 15, 3) := by decide +kernel
theorem dX5_countOnward_56 : decode cX5_countOnward 56 = .ok (.aload_n 1, 1) := by decide +kernel
theorem dX5_countOnward_57 : decode cX5_countOnward 57 = .ok (.iload_n 3, 1) := by decide +kernel
theorem dX5_countOnward_58 : decode cX5_countOnward 58 = .ok (.invokevirtual 53, 3) := by decide +kernel
theorem dX5_countOnward_61 : decode cX5_countOnward 61 = .ok (.aload_n 0, 1) := by decide +kernel
theorem dX5_countOnward_62 : decode cX5_countOnward 62 = .ok (.getfield 15, 3) := by decide +kernel
theorem dX5_countOnward_65 : decode cX5_countOnward 65 = .ok (.aload_n 1, 1) := by decide +kernel
theorem dX5_countOnward_66 : decode cX5_countOnward 66 = .ok (.iload_n 3, 1) := by decide +kernel
theorem dX5_countOnward_67 : decode cX5_countOnward 67 = .ok (.invokevirtual 53, 3) := by decide +kernel
theorem dX5_countOnward_70 : decode cX5_countOnward 70 = .ok (.invokestatic 34, 3) := by decide +kernel
theorem dX5_countOnward_73 : decode cX5_countOnward 73 = .ok (.aload_n 0, 1) := by decide +kernel
theorem dX5_countOnward_74 : decode cX5_countOnward 74 = .ok (.getfield 15, 3) := by decide +kernel
theorem dX5_countOnward_77 : decode cX5_countOnward 77 = .ok (.iload_n 2, 1) := by decide +kernel
theorem dX5_countOnward_78 : decode cX5_countOnward 78 = .ok (.invokestatic 34, 3) := by decide +kernel
theorem dX5_countOnward_81 : decode cX5_countOnward 81 = .ok (.iadd, 1) := by decide +kernel
theorem dX5_countOnward_82 : decode cX5_countOnward 82 = .ok (.invokestatic 60, 3) := by decide +kernel
theorem dX5_countOnward_85 : decode cX5_countOnward 85 = .ok (.iinc 3 1, 3) := by decide +kernel
theorem dX5_countOnward_88 : decode cX5_countOnward 88 = .ok (.goto (-53), 3) := by decide +kernel
theorem dX5_countOnward_91 : decode cX5_countOnward 91 = .ok (.iinc 2 (-1), 3) := by decide +kernel
theorem dX5_countOnward_94 : decode cX5_countOnward 94 = .ok (.goto (-65), 3) := by decide +kernel
theorem dX5_countOnward_97 : decode cX5_countOnward 97 = .ok (.return_, 1) := by decide +kernel
theorem dX6_init_0 : decode cX6_init 0 = .ok (.aload_n 0, 1) := by decide +kernel
theorem dX6_init_1 : decode cX6_init 1 = .ok (.invokespecial 3, 3) := by decide +kernel
theorem dX6_init_4 : decode cX6_init 4 = .ok (.aload_n 0, 1) := by decide +kernel
theorem dX6_init_5 : decode cX6_init 5 = .ok (.bipush 14, 2) := by decide +kernel
theorem dX6_init_7 : decode cX6_init 7 = .ok (.newarray .int, 2) := by decide +kernel
theorem dX6_init_9 : decode cX6_init 9 = .ok (.putfield 9, 3) := by decide +kernel
theorem dX6_init_12 : decode cX6_init 12 = .ok (.aload_n 0, 1) := by decide +kernel
theorem dX6_init_13 : decode cX6_init 13 = .ok (.bipush 14, 2) := by decide +kernel
theorem dX6_init_15 : decode cX6_init 15 = .ok (.newarray .int, 2) := by decide +kernel
theorem dX6_init_17 : decode cX6_init 17 = .ok (.putfield 15, 3) := by decide +kernel
theorem dX6_init_20 : decode cX6_init 20 = .ok (.aload_n 0, 1) := by decide +kernel
theorem dX6_init_21 : decode cX6_init 21 = .ok (.bipush 14, 2) := by decide +kernel
