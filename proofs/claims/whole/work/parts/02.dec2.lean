theorem dX10_years_16 : decode cX10_years 16 = .ok (.invokestatic 254, 3) := by decide +kernel
theorem dX10_years_19 : decode cX10_years 19 = .ok (.iload_n 3, 1) := by decide +kernel
theorem dX10_years_20 : decode cX10_years 20 = .ok (.ifCond .ne 7, 3) := by decide +kernel
theorem dX10_years_23 : decode cX10_years 23 = .ok (.iconst 0, 1) := by decide +kernel
theorem dX10_years_24 : decode cX10_years 24 = .ok (.goto 4, 3) := by decide +kernel
theorem dX10_years_27 : decode cX10_years 27 = .ok (.iconst 1, 1) := by decide +kernel
theorem dX10_years_28 : decode cX10_years 28 = .ok (.istore 5, 2) := by decide +kernel
theorem dX10_years_30 : decode cX10_years 30 = .ok (.aload 4, 2) := by decide +kernel
theorem dX10_years_32 : decode cX10_years 32 = .ok (.getfield 177, 3) := by decide +kernel
theorem dX10_years_35 : decode cX10_years 35 = .ok (.iload 5, 2) := by decide +kernel
theorem dX10_years_37 : decode cX10_years 37 = .ok (.isub, 1) := by decide +kernel
theorem dX10_years_38 : decode cX10_years 38 = .ok (.iload_n 2, 1) := by decide +kernel
theorem dX10_years_39 : decode cX10_years 39 = .ok (.if_icmp .ge 5, 3) := by decide +kernel
theorem dX10_years_42 : decode cX10_years 42 = .ok (.iconst (-1), 1) := by decide +kernel
theorem dX10_years_43 : decode cX10_years 43 = .ok (.ireturn, 1) := by decide +kernel
theorem dX10_years_44 : decode cX10_years 44 = .ok (.aload_n 0, 1) := by decide +kernel
theorem dX10_years_45 : decode cX10_years 45 = .ok (.getfield 64, 3) := by decide +kernel
theorem dX10_years_48 : decode cX10_years 48 = .ok (.aload_n 0, 1) := by decide +kernel
theorem dX10_years_49 : decode cX10_years 49 = .ok (.getfield 40, 3) := by decide +kernel
theorem dX10_years_52 : decode cX10_years 52 = .ok (.iload_n 2, 1) := by decide +kernel
theorem dX10_years_53 : decode cX10_years 53 = .ok (.invokevirtual 273, 3) := by decide +kernel
theorem dX10_years_56 : decode cX10_years 56 = .ok (.aload_n 0, 1) := by decide +kernel
theorem dX10_years_57 : decode cX10_years 57 = .ok (.getfield 64, 3) := by decide +kernel
theorem dX10_years_60 : decode cX10_years 60 = .ok (.aload 4, 2) := by decide +kernel
theorem dX10_years_62 : decode cX10_years 62 = .ok (.iconst 0, 1) := by decide +kernel
theorem dX10_years_63 : decode cX10_years 63 = .ok (.invokevirtual 277, 3) := by decide +kernel
theorem dX10_years_66 : decode cX10_years 66 = .ok (.istore 6, 2) := by decide +kernel
theorem dX10_years_68 : decode cX10_years 68 = .ok (.iload_n 3, 1) := by decide +kernel
theorem dX10_years_69 : decode cX10_years 69 = .ok (.ifCond .ne 8, 3) := by decide +kernel
theorem dX10_years_72 : decode cX10_years 72 = .ok (.iload 6, 2) := by decide +kernel
theorem dX10_years_74 : decode cX10_years 74 = .ok (.goto 17, 3) := by decide +kernel
theorem dX10_years_77 : decode cX10_years 77 = .ok (.aload_n 0, 1) := by decide +kernel
theorem dX10_years_78 : decode cX10_years 78 = .ok (.getfield 64, 3) := by decide +kernel
theorem dX10_years_81 : decode cX10_years 81 = .ok (.aload 4, 2) := by decide +kernel
theorem dX10_years_83 : decode cX10_years 83 = .ok (.iload 5, 2) := by decide +kernel
theorem dX10_years_85 : decode cX10_years 85 = .ok (.invokevirtual 277, 3) := by decide +kernel
theorem dX10_years_88 : decode cX10_years 88 = .ok (.iload 6, 2) := by decide +kernel
theorem dX10_years_90 : decode cX10_years 90 = .ok (.isub, 1) := by decide +kernel
theorem dX10_years_91 : decode cX10_years 91 = .ok (.ireturn, 1) := by decide +kernel
theorem dX10_lasts_0 : decode cX10_lasts 0 = .ok (.aload_n 0, 1) := by decide +kernel
theorem dX10_lasts_1 : decode cX10_lasts 1 = .ok (.iload_n 1, 1) := by decide +kernel
theorem dX10_lasts_2 : decode cX10_lasts 2 = .ok (.invokevirtual 158, 3) := by decide +kernel
theorem dX10_lasts_5 : decode cX10_lasts 5 = .ok (.astore_n 3, 1) := by decide +kernel
theorem dX10_lasts_6 : decode cX10_lasts 6 = .ok (.iload_n 2, 1) := by decide +kernel
theorem dX10_lasts_7 : decode cX10_lasts 7 = .ok (.iconst 3, 1) := by decide +kernel
theorem dX10_lasts_8 : decode cX10_lasts 8 = .ok (.invokestatic 212, 3) := by decide +kernel
theorem dX10_lasts_11 : decode cX10_lasts 11 = .ok (.aload_n 0, 1) := by decide +kernel
theorem dX10_lasts_12 : decode cX10_lasts 12 = .ok (.getfield 50, 3) := by decide +kernel
theorem dX10_lasts_15 : decode cX10_lasts 15 = .ok (.aload_n 3, 1) := by decide +kernel
theorem dX10_lasts_16 : decode cX10_lasts 16 = .ok (.sipush 1458, 3) := by decide +kernel
theorem dX10_lasts_19 : decode cX10_lasts 19 = .ok (.invokevirtual 281, 3) := by decide +kernel
theorem dX10_lasts_22 : decode cX10_lasts 22 = .ok (.iload_n 2, 1) := by decide +kernel
theorem dX10_lasts_23 : decode cX10_lasts 23 = .ok (.lookupswitch 41 #[(0, 25), (1, 33)], 25) := by decide +kernel
theorem dX10_lasts_48 : decode cX10_lasts 48 = .ok (.aload_n 0, 1) := by decide +kernel
theorem dX10_lasts_49 : decode cX10_lasts 49 = .ok (.getfield 50, 3) := by decide +kernel
theorem dX10_lasts_52 : decode cX10_lasts 52 = .ok (.getfield 284, 3) := by decide +kernel
theorem dX10_lasts_55 : decode cX10_lasts 55 = .ok (.ireturn, 1) := by decide +kernel
theorem dX10_lasts_56 : decode cX10_lasts 56 = .ok (.aload_n 0, 1) := by decide +kernel
theorem dX10_lasts_57 : decode cX10_lasts 57 = .ok (.getfield 50, 3) := by decide +kernel
theorem dX10_lasts_60 : decode cX10_lasts 60 = .ok (.getfield 287, 3) := by decide +kernel
theorem dX10_lasts_63 : decode cX10_lasts 63 = .ok (.ireturn, 1) := by decide +kernel
theorem dX10_lasts_64 : decode cX10_lasts 64 = .ok (.aload_n 0, 1) := by decide +kernel
theorem dX10_lasts_65 : decode cX10_lasts 65 = .ok (.getfield 50, 3) := by decide +kernel
theorem dX10_lasts_68 : decode cX10_lasts 68 = .ok (.getfield 290, 3) := by decide +kernel
theorem dX10_lasts_71 : decode cX10_lasts 71 = .ok (.ireturn, 1) := by decide +kernel
theorem dX10_chance_0 : decode cX10_chance 0 = .ok (.aload_n 0, 1) := by decide +kernel
theorem dX10_chance_1 : decode cX10_chance 1 = .ok (.iload_n 1, 1) := by decide +kernel
theorem dX10_chance_2 : decode cX10_chance 2 = .ok (.invokevirtual 158, 3) := by decide +kernel
theorem dX10_chance_5 : decode cX10_chance 5 = .ok (.astore 4, 2) := by decide +kernel
theorem dX10_chance_7 : decode cX10_chance 7 = .ok (.iload_n 2, 1) := by decide +kernel
theorem dX10_chance_8 : decode cX10_chance 8 = .ok (.iconst 0, 1) := by decide +kernel
theorem dX10_chance_9 : decode cX10_chance 9 = .ok (.sipush 1000, 3) := by decide +kernel
theorem dX10_chance_12 : decode cX10_chance 12 = .ok (.invokestatic 254, 3) := by decide +kernel
theorem dX10_chance_15 : decode cX10_chance 15 = .ok (.iload_n 3, 1) := by decide +kernel
theorem dX10_chance_16 : decode cX10_chance 16 = .ok (.iconst 0, 1) := by decide +kernel
theorem dX10_chance_17 : decode cX10_chance 17 = .ok (.bipush 100, 2) := by decide +kernel
theorem dX10_chance_19 : decode cX10_chance 19 = .ok (.invokestatic 254, 3) := by decide +kernel
theorem dX10_chance_22 : decode cX10_chance 22 = .ok (.aload_n 0, 1) := by decide +kernel
theorem dX10_chance_23 : decode cX10_chance 23 = .ok (.getfield 50, 3) := by decide +kernel
theorem dX10_chance_26 : decode cX10_chance 26 = .ok (.aload 4, 2) := by decide +kernel
theorem dX10_chance_28 : decode cX10_chance 28 = .ok (.bipush 100, 2) := by decide +kernel
theorem dX10_chance_30 : decode cX10_chance 30 = .ok (.invokevirtual 281, 3) := by decide +kernel
theorem dX10_chance_33 : decode cX10_chance 33 = .ok (.aload_n 0, 1) := by decide +kernel
theorem dX10_chance_34 : decode cX10_chance 34 = .ok (.getfield 50, 3) := by decide +kernel
theorem dX10_chance_37 : decode cX10_chance 37 = .ok (.iload_n 2, 1) := by decide +kernel
theorem dX10_chance_38 : decode cX10_chance 38 = .ok (.iload_n 3, 1) := by decide +kernel
theorem dX10_chance_39 : decode cX10_chance 39 = .ok (.invokevirtual 293, 3) := by decide +kernel
theorem dX10_chance_42 : decode cX10_chance 42 = .ok (.ireturn, 1) := by decide +kernel
theorem dX10_joint_0 : decode cX10_joint 0 = .ok (.aload_n 0, 1) := by decide +kernel
theorem dX10_joint_1 : decode cX10_joint 1 = .ok (.iload_n 1, 1) := by decide +kernel
theorem dX10_joint_2 : decode cX10_joint 2 = .ok (.invokevirtual 158, 3) := by decide +kernel
theorem dX10_joint_5 : decode cX10_joint 5 = .ok (.astore 4, 2) := by decide +kernel
theorem dX10_joint_7 : decode cX10_joint 7 = .ok (.aload_n 0, 1) := by decide +kernel
theorem dX10_joint_8 : decode cX10_joint 8 = .ok (.iload_n 2, 1) := by decide +kernel
theorem dX10_joint_9 : decode cX10_joint 9 = .ok (.invokevirtual 158, 3) := by decide +kernel
theorem dX10_joint_12 : decode cX10_joint 12 = .ok (.astore 5, 2) := by decide +kernel
theorem dX10_joint_14 : decode cX10_joint 14 = .ok (.iload_n 3, 1) := by decide +kernel
theorem dX10_joint_15 : decode cX10_joint 15 = .ok (.iconst 3, 1) := by decide +kernel
theorem dX10_joint_16 : decode cX10_joint 16 = .ok (.invokestatic 212, 3) := by decide +kernel
theorem dX10_joint_19 : decode cX10_joint 19 = .ok (.iload_n 1, 1) := by decide +kernel
theorem dX10_joint_20 : decode cX10_joint 20 = .ok (.iload_n 2, 1) := by decide +kernel
theorem dX10_joint_21 : decode cX10_joint 21 = .ok (.if_icmp .eq 27, 3) := by decide +kernel
theorem dX10_joint_24 : decode cX10_joint 24 = .ok (.aload 4, 2) := by decide +kernel
theorem dX10_joint_26 : decode cX10_joint 26 = .ok (.getfield 132, 3) := by decide +kernel
theorem dX10_joint_29 : decode cX10_joint 29 = .ok (.getfield 162, 3) := by decide +kernel
theorem dX10_joint_32 : decode cX10_joint 32 = .ok (.iconst 1, 1) := by decide +kernel
theorem dX10_joint_33 : decode cX10_joint 33 = .ok (.if_icmp .ne 15, 3) := by decide +kernel
theorem dX10_joint_36 : decode cX10_joint 36 = .ok (.aload 5, 2) := by decide +kernel
theorem dX10_joint_38 : decode cX10_joint 38 = .ok (.getfield 132, 3) := by decide +kernel
theorem dX10_joint_41 : decode cX10_joint 41 = .ok (.getfield 162, 3) := by decide +kernel
theorem dX10_joint_44 : decode cX10_joint 44 = .ok (.iconst 1, 1) := by decide +kernel
theorem dX10_joint_45 : decode cX10_joint 45 = .ok (.if_icmp .eq 14, 3) := by decide +kernel
theorem dX10_joint_48 : decode cX10_joint 48 = .ok (.new 153, 3) := by decide +kernel
theorem dX10_joint_51 : decode cX10_joint 51 = .ok (.dup, 1) := by decide +kernel
theorem dX10_joint_52 : decode cX10_joint 52 = .ok (.ldc_w 296, 3) := by decide +kernel
theorem dX10_joint_55 : decode cX10_joint 55 = .ok (.invokespecial 157, 3) := by decide +kernel
theorem dX10_joint_58 : decode cX10_joint 58 = .ok (.athrow, 1) := by decide +kernel
theorem dX10_joint_59 : decode cX10_joint 59 = .ok (.aload 4, 2) := by decide +kernel
theorem dX10_joint_61 : decode cX10_joint 61 = .ok (.aload 5, 2) := by decide +kernel
theorem dX10_joint_63 : decode cX10_joint 63 = .ok (.invokevirtual 298, 3) := by decide +kernel
theorem dX10_joint_66 : decode cX10_joint 66 = .ok (.istore 6, 2) := by decide +kernel
theorem dX10_joint_68 : decode cX10_joint 68 = .ok (.iload 6, 2) := by decide +kernel
theorem dX10_joint_70 : decode cX10_joint 70 = .ok (.iconst (-1), 1) := by decide +kernel
theorem dX10_joint_71 : decode cX10_joint 71 = .ok (.if_icmp .ne 14, 3) := by decide +kernel
theorem dX10_joint_74 : decode cX10_joint 74 = .ok (.iload_n 3, 1) := by decide +kernel
theorem dX10_joint_75 : decode cX10_joint 75 = .ok (.iconst 2, 1) := by decide +kernel
theorem dX10_joint_76 : decode cX10_joint 76 = .ok (.if_icmp .ne 7, 3) := by decide +kernel
theorem dX10_joint_79 : decode cX10_joint 79 = .ok (.iconst 0, 1) := by decide +kernel
theorem dX10_joint_80 : decode cX10_joint 80 = .ok (.goto 4, 3) := by decide +kernel
theorem dX10_joint_83 : decode cX10_joint 83 = .ok (.iconst (-1), 1) := by decide +kernel
theorem dX10_joint_84 : decode cX10_joint 84 = .ok (.ireturn, 1) := by decide +kernel
theorem dX10_joint_85 : decode cX10_joint 85 = .ok (.aload 4, 2) := by decide +kernel
theorem dX10_joint_87 : decode cX10_joint 87 = .ok (.getfield 132, 3) := by decide +kernel
theorem dX10_joint_90 : decode cX10_joint 90 = .ok (.aload 5, 2) := by decide +kernel
theorem dX10_joint_92 : decode cX10_joint 92 = .ok (.getfield 132, 3) := by decide +kernel
theorem dX10_joint_95 : decode cX10_joint 95 = .ok (.iload 6, 2) := by decide +kernel
theorem dX10_joint_97 : decode cX10_joint 97 = .ok (.invokevirtual 302, 3) := by decide +kernel
theorem dX10_joint_100 : decode cX10_joint 100 = .ok (.istore 7, 2) := by decide +kernel
theorem dX10_joint_102 : decode cX10_joint 102 = .ok (.iload_n 3, 1) := by decide +kernel
theorem dX10_joint_103 : decode cX10_joint 103 = .ok (.lookupswitch 31 #[(0, 25), (1, 28)], 25) := by decide +kernel
theorem dX10_joint_128 : decode cX10_joint 128 = .ok (.iload 6, 2) := by decide +kernel
theorem dX10_joint_130 : decode cX10_joint 130 = .ok (.ireturn, 1) := by decide +kernel
theorem dX10_joint_131 : decode cX10_joint 131 = .ok (.iload 7, 2) := by decide +kernel
theorem dX10_joint_133 : decode cX10_joint 133 = .ok (.ireturn, 1) := by decide +kernel
theorem dX10_joint_134 : decode cX10_joint 134 = .ok (.aload 4, 2) := by decide +kernel
theorem dX10_joint_136 : decode cX10_joint 136 = .ok (.aload 4, 2) := by decide +kernel
theorem dX10_joint_138 : decode cX10_joint 138 = .ok (.iconst 0, 1) := by decide +kernel
theorem dX10_joint_139 : decode cX10_joint 139 = .ok (.invokevirtual 306, 3) := by decide +kernel
theorem dX10_joint_142 : decode cX10_joint 142 = .ok (.invokevirtual 196, 3) := by decide +kernel
theorem dX10_joint_145 : decode cX10_joint 145 = .ok (.aload 5, 2) := by decide +kernel
theorem dX10_joint_147 : decode cX10_joint 147 = .ok (.aload 5, 2) := by decide +kernel
theorem dX10_joint_149 : decode cX10_joint 149 = .ok (.iconst 0, 1) := by decide +kernel
theorem dX10_joint_150 : decode cX10_joint 150 = .ok (.invokevirtual 306, 3) := by decide +kernel
theorem dX10_joint_153 : decode cX10_joint 153 = .ok (.invokevirtual 196, 3) := by decide +kernel
theorem dX10_joint_156 : decode cX10_joint 156 = .ok (.iadd, 1) := by decide +kernel
theorem dX10_joint_157 : decode cX10_joint 157 = .ok (.iload 7, 2) := by decide +kernel
theorem dX10_joint_159 : decode cX10_joint 159 = .ok (.isub, 1) := by decide +kernel
theorem dX10_joint_160 : decode cX10_joint 160 = .ok (.ireturn, 1) := by decide +kernel
theorem dX10_person_0 : decode cX10_person 0 = .ok (.aload_n 0, 1) := by decide +kernel
theorem dX10_person_1 : decode cX10_person 1 = .ok (.iload_n 1, 1) := by decide +kernel
theorem dX10_person_2 : decode cX10_person 2 = .ok (.invokevirtual 158, 3) := by decide +kernel
theorem dX10_person_5 : decode cX10_person 5 = .ok (.pop, 1) := by decide +kernel
theorem dX10_person_6 : decode cX10_person 6 = .ok (.iload_n 2, 1) := by decide +kernel
theorem dX10_person_7 : decode cX10_person 7 = .ok (.ifCond .lt 23, 3) := by decide +kernel
theorem dX10_person_10 : decode cX10_person 10 = .ok (.iload_n 2, 1) := by decide +kernel
theorem dX10_person_11 : decode cX10_person 11 = .ok (.sipush 9999, 3) := by decide +kernel
theorem dX10_person_14 : decode cX10_person 14 = .ok (.if_icmp .gt 16, 3) := by decide +kernel
theorem dX10_person_17 : decode cX10_person 17 = .ok (.aload_n 0, 1) := by decide +kernel
theorem dX10_person_18 : decode cX10_person 18 = .ok (.getfield 40, 3) := by decide +kernel
theorem dX10_person_21 : decode cX10_person 21 = .ok (.iload_n 1, 1) := by decide +kernel
theorem dX10_person_22 : decode cX10_person 22 = .ok (.invokevirtual 189, 3) := by decide +kernel
theorem dX10_person_25 : decode cX10_person 25 = .ok (.bipush 12, 2) := by decide +kernel
theorem dX10_person_27 : decode cX10_person 27 = .ok (.if_icmp .lt 13, 3) := by decide +kernel
theorem dX10_person_30 : decode cX10_person 30 = .ok (.aload_n 0, 1) := by decide +kernel
theorem dX10_person_31 : decode cX10_person 31 = .ok (.getfield 40, 3) := by decide +kernel
theorem dX10_person_34 : decode cX10_person 34 = .ok (.iconst 3, 1) := by decide +kernel
theorem dX10_person_35 : decode cX10_person 35 = .ok (.invokevirtual 115, 3) := by decide +kernel
theorem dX10_person_38 : decode cX10_person 38 = .ok (.iconst (-1), 1) := by decide +kernel
theorem dX10_person_39 : decode cX10_person 39 = .ok (.ireturn, 1) := by decide +kernel
theorem dX10_person_40 : decode cX10_person 40 = .ok (.aload_n 0, 1) := by decide +kernel
theorem dX10_person_41 : decode cX10_person 41 = .ok (.getfield 40, 3) := by decide +kernel
theorem dX10_person_44 : decode cX10_person 44 = .ok (.iload_n 1, 1) := by decide +kernel
theorem dX10_person_45 : decode cX10_person 45 = .ok (.iload_n 2, 1) := by decide +kernel
theorem dX10_person_46 : decode cX10_person 46 = .ok (.invokevirtual 309, 3) := by decide +kernel
theorem dX10_person_49 : decode cX10_person 49 = .ok (.ireturn, 1) := by decide +kernel
theorem dX10_given_0 : decode cX10_given 0 = .ok (.aload_n 0, 1) := by decide +kernel
theorem dX10_given_1 : decode cX10_given 1 = .ok (.iload_n 1, 1) := by decide +kernel
theorem dX10_given_2 : decode cX10_given 2 = .ok (.invokevirtual 158, 3) := by decide +kernel
theorem dX10_given_5 : decode cX10_given 5 = .ok (.astore_n 3, 1) := by decide +kernel
theorem dX10_given_6 : decode cX10_given 6 = .ok (.iload_n 2, 1) := by decide +kernel
theorem dX10_given_7 : decode cX10_given 7 = .ok (.iconst 4, 1) := by decide +kernel
theorem dX10_given_8 : decode cX10_given 8 = .ok (.invokestatic 212, 3) := by decide +kernel
theorem dX10_given_11 : decode cX10_given 11 = .ok (.aload_n 0, 1) := by decide +kernel
theorem dX10_given_12 : decode cX10_given 12 = .ok (.getfield 71, 3) := by decide +kernel
theorem dX10_given_15 : decode cX10_given 15 = .ok (.aload_n 0, 1) := by decide +kernel
theorem dX10_given_16 : decode cX10_given 16 = .ok (.getfield 40, 3) := by decide +kernel
theorem dX10_given_19 : decode cX10_given 19 = .ok (.iload_n 1, 1) := by decide +kernel
theorem dX10_given_20 : decode cX10_given 20 = .ok (.invokevirtual 312, 3) := by decide +kernel
theorem dX10_given_23 : decode cX10_given 23 = .ok (.aload_n 0, 1) := by decide +kernel
theorem dX10_given_24 : decode cX10_given 24 = .ok (.getfield 71, 3) := by decide +kernel
theorem dX10_given_27 : decode cX10_given 27 = .ok (.aload_n 3, 1) := by decide +kernel
theorem dX10_given_28 : decode cX10_given 28 = .ok (.invokevirtual 315, 3) := by decide +kernel
theorem dX10_given_31 : decode cX10_given 31 = .ok (.iload_n 2, 1) := by decide +kernel
theorem dX10_given_32 : decode cX10_given 32 = .ok (.tableswitch 52 0 2 #[28, 36, 44], 28) := by decide +kernel
theorem dX10_given_60 : decode cX10_given 60 = .ok (.aload_n 0, 1) := by decide +kernel
theorem dX10_given_61 : decode cX10_given 61 = .ok (.getfield 71, 3) := by decide +kernel
theorem dX10_given_64 : decode cX10_given 64 = .ok (.getfield 319, 3) := by decide +kernel
theorem dX10_given_67 : decode cX10_given 67 = .ok (.ireturn, 1) := by decide +kernel
theorem dX10_given_68 : decode cX10_given 68 = .ok (.aload_n 0, 1) := by decide +kernel
theorem dX10_given_69 : decode cX10_given 69 = .ok (.getfield 71, 3) := by decide +kernel
theorem dX10_given_72 : decode cX10_given 72 = .ok (.getfield 322, 3) := by decide +kernel
theorem dX10_given_75 : decode cX10_given 75 = .ok (.ireturn, 1) := by decide +kernel
theorem dX10_given_76 : decode cX10_given 76 = .ok (.aload_n 0, 1) := by decide +kernel
theorem dX10_given_77 : decode cX10_given 77 = .ok (.getfield 71, 3) := by decide +kernel
theorem dX10_given_80 : decode cX10_given 80 = .ok (.getfield 325, 3) := by decide +kernel
theorem dX10_given_83 : decode cX10_given 83 = .ok (.ireturn, 1) := by decide +kernel
theorem dX10_given_84 : decode cX10_given 84 = .ok (.aload_n 0, 1) := by decide +kernel
theorem dX10_given_85 : decode cX10_given 85 = .ok (.getfield 71, 3) := by decide +kernel
theorem dX10_given_88 : decode cX10_given 88 = .ok (.getfield 328, 3) := by decide +kernel
theorem dX10_given_91 : decode cX10_given 91 = .ok (.ireturn, 1) := by decide +kernel
theorem dX10_more_0 : decode cX10_more 0 = .ok (.aload_n 0, 1) := by decide +kernel
theorem dX10_more_1 : decode cX10_more 1 = .ok (.iload_n 1, 1) := by decide +kernel
theorem dX10_more_2 : decode cX10_more 2 = .ok (.invokevirtual 158, 3) := by decide +kernel
theorem dX10_more_5 : decode cX10_more 5 = .ok (.astore_n 3, 1) := by decide +kernel
theorem dX10_more_6 : decode cX10_more 6 = .ok (.iload_n 2, 1) := by decide +kernel
theorem dX10_more_7 : decode cX10_more 7 = .ok (.iconst 3, 1) := by decide +kernel
theorem dX10_more_8 : decode cX10_more 8 = .ok (.invokestatic 212, 3) := by decide +kernel
theorem dX10_more_11 : decode cX10_more 11 = .ok (.aload_n 3, 1) := by decide +kernel
theorem dX10_more_12 : decode cX10_more 12 = .ok (.getfield 132, 3) := by decide +kernel
theorem dX10_more_15 : decode cX10_more 15 = .ok (.getfield 162, 3) := by decide +kernel
theorem dX10_more_18 : decode cX10_more 18 = .ok (.ifCond .eq 14, 3) := by decide +kernel
theorem dX10_more_21 : decode cX10_more 21 = .ok (.new 153, 3) := by decide +kernel
theorem dX10_more_24 : decode cX10_more 24 = .ok (.dup, 1) := by decide +kernel
theorem dX10_more_25 : decode cX10_more 25 = .ok (.ldc_w 331, 3) := by decide +kernel
theorem dX10_more_28 : decode cX10_more 28 = .ok (.invokespecial 157, 3) := by decide +kernel
theorem dX10_more_31 : decode cX10_more 31 = .ok (.athrow, 1) := by decide +kernel
theorem dX10_more_32 : decode cX10_more 32 = .ok (.aload_n 0, 1) := by decide +kernel
theorem dX10_more_33 : decode cX10_more 33 = .ok (.getfield 78, 3) := by decide +kernel
theorem dX10_more_36 : decode cX10_more 36 = .ok (.aload_n 3, 1) := by decide +kernel
theorem dX10_more_37 : decode cX10_more 37 = .ok (.getfield 132, 3) := by decide +kernel
theorem dX10_more_40 : decode cX10_more 40 = .ok (.invokevirtual 333, 3) := by decide +kernel
theorem dX10_more_43 : decode cX10_more 43 = .ok (.iload_n 2, 1) := by decide +kernel
theorem dX10_more_44 : decode cX10_more 44 = .ok (.lookupswitch 44 #[(0, 28), (1, 36)], 28) := by decide +kernel
theorem dX10_more_72 : decode cX10_more 72 = .ok (.aload_n 0, 1) := by decide +kernel
theorem dX10_more_73 : decode cX10_more 73 = .ok (.getfield 78, 3) := by decide +kernel
theorem dX10_more_76 : decode cX10_more 76 = .ok (.getfield 335, 3) := by decide +kernel
theorem dX10_more_79 : decode cX10_more 79 = .ok (.ireturn, 1) := by decide +kernel
theorem dX10_more_80 : decode cX10_more 80 = .ok (.aload_n 0, 1) := by decide +kernel
theorem dX10_more_81 : decode cX10_more 81 = .ok (.getfield 78, 3) := by decide +kernel
theorem dX10_more_84 : decode cX10_more 84 = .ok (.getfield 338, 3) := by decide +kernel
theorem dX10_more_87 : decode cX10_more 87 = .ok (.ireturn, 1) := by decide +kernel
theorem dX10_more_88 : decode cX10_more 88 = .ok (.aload_n 3, 1) := by decide +kernel
theorem dX10_more_89 : decode cX10_more 89 = .ok (.getfield 165, 3) := by decide +kernel
theorem dX10_more_92 : decode cX10_more 92 = .ok (.aload_n 0, 1) := by decide +kernel
theorem dX10_more_93 : decode cX10_more 93 = .ok (.getfield 78, 3) := by decide +kernel
theorem dX10_more_96 : decode cX10_more 96 = .ok (.getfield 341, 3) := by decide +kernel
theorem dX10_more_99 : decode cX10_more 99 = .ok (.iadd, 1) := by decide +kernel
theorem dX10_more_100 : decode cX10_more 100 = .ok (.ireturn, 1) := by decide +kernel
theorem dX10_court_0 : decode cX10_court 0 = .ok (.aload_n 0, 1) := by decide +kernel
theorem dX10_court_1 : decode cX10_court 1 = .ok (.iload_n 1, 1) := by decide +kernel
theorem dX10_court_2 : decode cX10_court 2 = .ok (.invokevirtual 158, 3) := by decide +kernel
theorem dX10_court_5 : decode cX10_court 5 = .ok (.astore 4, 2) := by decide +kernel
theorem dX10_court_7 : decode cX10_court 7 = .ok (.iload_n 2, 1) := by decide +kernel
theorem dX10_court_8 : decode cX10_court 8 = .ok (.iconst 0, 1) := by decide +kernel
theorem dX10_court_9 : decode cX10_court 9 = .ok (.iconst 2, 1) := by decide +kernel
theorem dX10_court_10 : decode cX10_court 10 = .ok (.invokestatic 254, 3) := by decide +kernel
theorem dX10_court_13 : decode cX10_court 13 = .ok (.iload_n 2, 1) := by decide +kernel
theorem dX10_court_14 : decode cX10_court 14 = .ok (.iconst 2, 1) := by decide +kernel
theorem dX10_court_15 : decode cX10_court 15 = .ok (.if_icmp .ne 10, 3) := by decide +kernel
theorem dX10_court_18 : decode cX10_court 18 = .ok (.iload_n 3, 1) := by decide +kernel
theorem dX10_court_19 : decode cX10_court 19 = .ok (.iconst 1, 1) := by decide +kernel
theorem dX10_court_20 : decode cX10_court 20 = .ok (.bipush 9, 2) := by decide +kernel
theorem dX10_court_22 : decode cX10_court 22 = .ok (.invokestatic 254, 3) := by decide +kernel
theorem dX10_court_25 : decode cX10_court 25 = .ok (.iconst 0, 1) := by decide +kernel
theorem dX10_court_26 : decode cX10_court 26 = .ok (.istore 5, 2) := by decide +kernel
theorem dX10_court_28 : decode cX10_court 28 = .ok (.iload 5, 2) := by decide +kernel
theorem dX10_court_30 : decode cX10_court 30 = .ok (.aload_n 0, 1) := by decide +kernel
theorem dX10_court_31 : decode cX10_court 31 = .ok (.getfield 82, 3) := by decide +kernel
theorem dX10_court_34 : decode cX10_court 34 = .ok (.arraylength, 1) := by decide +kernel
theorem dX10_court_35 : decode cX10_court 35 = .ok (.if_icmp .ge 17, 3) := by decide +kernel
theorem dX10_court_38 : decode cX10_court 38 = .ok (.aload_n 0, 1) := by decide +kernel
theorem dX10_court_39 : decode cX10_court 39 = .ok (.getfield 82, 3) := by decide +kernel
theorem dX10_court_42 : decode cX10_court 42 = .ok (.iload 5, 2) := by decide +kernel
theorem dX10_court_44 : decode cX10_court 44 = .ok (.iconst 0, 1) := by decide +kernel
theorem dX10_court_45 : decode cX10_court 45 = .ok (.bastore, 1) := by decide +kernel
theorem dX10_court_46 : decode cX10_court 46 = .ok (.iinc 5 1, 3) := by decide +kernel
theorem dX10_court_49 : decode cX10_court 49 = .ok (.goto (-21), 3) := by decide +kernel
theorem dX10_court_52 : decode cX10_court 52 = .ok (.aload 4, 2) := by decide +kernel
theorem dX10_court_54 : decode cX10_court 54 = .ok (.getfield 165, 3) := by decide +kernel
theorem dX10_court_57 : decode cX10_court 57 = .ok (.istore 5, 2) := by decide +kernel
theorem dX10_court_59 : decode cX10_court 59 = .ok (.iconst 0, 1) := by decide +kernel
theorem dX10_court_60 : decode cX10_court 60 = .ok (.istore 6, 2) := by decide +kernel
theorem dX10_court_62 : decode cX10_court 62 = .ok (.iload 6, 2) := by decide +kernel
theorem dX10_court_64 : decode cX10_court 64 = .ok (.aload_n 0, 1) := by decide +kernel
theorem dX10_court_65 : decode cX10_court 65 = .ok (.getfield 40, 3) := by decide +kernel
theorem dX10_court_68 : decode cX10_court 68 = .ok (.getfield 146, 3) := by decide +kernel
theorem dX10_court_71 : decode cX10_court 71 = .ok (.if_icmp .ge 48, 3) := by decide +kernel
theorem dX10_court_74 : decode cX10_court 74 = .ok (.aload_n 0, 1) := by decide +kernel
theorem dX10_court_75 : decode cX10_court 75 = .ok (.getfield 40, 3) := by decide +kernel
theorem dX10_court_78 : decode cX10_court 78 = .ok (.iload 6, 2) := by decide +kernel
theorem dX10_court_80 : decode cX10_court 80 = .ok (.invokevirtual 237, 3) := by decide +kernel
theorem dX10_court_83 : decode cX10_court 83 = .ok (.iload_n 1, 1) := by decide +kernel
theorem dX10_court_84 : decode cX10_court 84 = .ok (.if_icmp .ne 29, 3) := by decide +kernel
theorem dX10_court_87 : decode cX10_court 87 = .ok (.iload 5, 2) := by decide +kernel
theorem dX10_court_89 : decode cX10_court 89 = .ok (.aload 4, 2) := by decide +kernel
theorem dX10_court_91 : decode cX10_court 91 = .ok (.aload_n 0, 1) := by decide +kernel
theorem dX10_court_92 : decode cX10_court 92 = .ok (.getfield 82, 3) := by decide +kernel
theorem dX10_court_95 : decode cX10_court 95 = .ok (.iload_n 2, 1) := by decide +kernel
theorem dX10_court_96 : decode cX10_court 96 = .ok (.iload_n 3, 1) := by decide +kernel
theorem dX10_court_97 : decode cX10_court 97 = .ok (.aload_n 0, 1) := by decide +kernel
theorem dX10_court_98 : decode cX10_court 98 = .ok (.getfield 40, 3) := by decide +kernel
theorem dX10_court_101 : decode cX10_court 101 = .ok (.iload 6, 2) := by decide +kernel
theorem dX10_court_103 : decode cX10_court 103 = .ok (.invokevirtual 240, 3) := by decide +kernel
theorem dX10_court_106 : decode cX10_court 106 = .ok (.iconst 0, 1) := by decide +kernel
theorem dX10_court_107 : decode cX10_court 107 = .ok (.invokevirtual 344, 3) := by decide +kernel
theorem dX10_court_110 : decode cX10_court 110 = .ok (.isub, 1) := by decide +kernel
theorem dX10_court_111 : decode cX10_court 111 = .ok (.istore 5, 2) := by decide +kernel
theorem dX10_court_113 : decode cX10_court 113 = .ok (.iinc 6 1, 3) := by decide +kernel
theorem dX10_court_116 : decode cX10_court 116 = .ok (.goto (-54), 3) := by decide +kernel
theorem dX10_court_119 : decode cX10_court 119 = .ok (.iload 5, 2) := by decide +kernel
theorem dX10_court_121 : decode cX10_court 121 = .ok (.ireturn, 1) := by decide +kernel
theorem dX10_near_0 : decode cX10_near 0 = .ok (.aload_n 0, 1) := by decide +kernel
theorem dX10_near_1 : decode cX10_near 1 = .ok (.iload_n 1, 1) := by decide +kernel
theorem dX10_near_2 : decode cX10_near 2 = .ok (.invokevirtual 158, 3) := by decide +kernel
theorem dX10_near_5 : decode cX10_near 5 = .ok (.astore 4, 2) := by decide +kernel
theorem dX10_near_7 : decode cX10_near 7 = .ok (.aload 4, 2) := by decide +kernel
theorem dX10_near_9 : decode cX10_near 9 = .ok (.iload_n 2, 1) := by decide +kernel
theorem dX10_near_10 : decode cX10_near 10 = .ok (.invokestatic 192, 3) := by decide +kernel
theorem dX10_near_13 : decode cX10_near 13 = .ok (.iload_n 3, 1) := by decide +kernel
theorem dX10_near_14 : decode cX10_near 14 = .ok (.iconst 0, 1) := by decide +kernel
theorem dX10_near_15 : decode cX10_near 15 = .ok (.bipush 30, 2) := by decide +kernel
theorem dX10_near_17 : decode cX10_near 17 = .ok (.invokestatic 254, 3) := by decide +kernel
theorem dX10_near_20 : decode cX10_near 20 = .ok (.aload 4, 2) := by decide +kernel
theorem dX10_near_22 : decode cX10_near 22 = .ok (.iload_n 2, 1) := by decide +kernel
theorem dX10_near_23 : decode cX10_near 23 = .ok (.invokevirtual 199, 3) := by decide +kernel
theorem dX10_near_26 : decode cX10_near 26 = .ok (.istore 5, 2) := by decide +kernel
theorem dX10_near_28 : decode cX10_near 28 = .ok (.iconst 0, 1) := by decide +kernel
theorem dX10_near_29 : decode cX10_near 29 = .ok (.istore 6, 2) := by decide +kernel
theorem dX10_near_31 : decode cX10_near 31 = .ok (.iconst 0, 1) := by decide +kernel
theorem dX10_near_32 : decode cX10_near 32 = .ok (.istore 7, 2) := by decide +kernel
theorem dX10_near_34 : decode cX10_near 34 = .ok (.iload 7, 2) := by decide +kernel
theorem dX10_near_36 : decode cX10_near 36 = .ok (.aload 4, 2) := by decide +kernel
theorem dX10_near_38 : decode cX10_near 38 = .ok (.getfield 165, 3) := by decide +kernel
theorem dX10_near_41 : decode cX10_near 41 = .ok (.if_icmp .ge 29, 3) := by decide +kernel
theorem dX10_near_44 : decode cX10_near 44 = .ok (.aload 4, 2) := by decide +kernel
theorem dX10_near_46 : decode cX10_near 46 = .ok (.iload 7, 2) := by decide +kernel
theorem dX10_near_48 : decode cX10_near 48 = .ok (.invokevirtual 199, 3) := by decide +kernel
theorem dX10_near_51 : decode cX10_near 51 = .ok (.iload 5, 2) := by decide +kernel
theorem dX10_near_53 : decode cX10_near 53 = .ok (.ixor, 1) := by decide +kernel
theorem dX10_near_54 : decode cX10_near 54 = .ok (.invokestatic 216, 3) := by decide +kernel
theorem dX10_near_57 : decode cX10_near 57 = .ok (.iload_n 3, 1) := by decide +kernel
theorem dX10_near_58 : decode cX10_near 58 = .ok (.if_icmp .ge 6, 3) := by decide +kernel
theorem dX10_near_61 : decode cX10_near 61 = .ok (.iinc 6 1, 3) := by decide +kernel
theorem dX10_near_64 : decode cX10_near 64 = .ok (.iinc 7 1, 3) := by decide +kernel
theorem dX10_near_67 : decode cX10_near 67 = .ok (.goto (-33), 3) := by decide +kernel
theorem dX10_near_70 : decode cX10_near 70 = .ok (.iload 6, 2) := by decide +kernel
theorem dX10_near_72 : decode cX10_near 72 = .ok (.ireturn, 1) := by decide +kernel
theorem dX10_drawn_0 : decode cX10_drawn 0 = .ok (.iload 4, 2) := by decide +kernel
theorem dX10_drawn_2 : decode cX10_drawn 2 = .ok (.iconst 3, 1) := by decide +kernel
theorem dX10_drawn_3 : decode cX10_drawn 3 = .ok (.invokestatic 212, 3) := by decide +kernel
theorem dX10_drawn_6 : decode cX10_drawn 6 = .ok (.iload_n 1, 1) := by decide +kernel
theorem dX10_drawn_7 : decode cX10_drawn 7 = .ok (.iconst 1, 1) := by decide +kernel
theorem dX10_drawn_8 : decode cX10_drawn 8 = .ok (.bipush 100, 2) := by decide +kernel
theorem dX10_drawn_10 : decode cX10_drawn 10 = .ok (.invokestatic 254, 3) := by decide +kernel
theorem dX10_drawn_13 : decode cX10_drawn 13 = .ok (.iload_n 2, 1) := by decide +kernel
theorem dX10_drawn_14 : decode cX10_drawn 14 = .ok (.iconst 0, 1) := by decide +kernel
theorem dX10_drawn_15 : decode cX10_drawn 15 = .ok (.sipush 1000, 3) := by decide +kernel
theorem dX10_drawn_18 : decode cX10_drawn 18 = .ok (.invokestatic 254, 3) := by decide +kernel
theorem dX10_drawn_21 : decode cX10_drawn 21 = .ok (.iconst 0, 1) := by decide +kernel
theorem dX10_drawn_22 : decode cX10_drawn 22 = .ok (.istore 5, 2) := by decide +kernel
theorem dX10_drawn_24 : decode cX10_drawn 24 = .ok (.iconst 0, 1) := by decide +kernel
theorem dX10_drawn_25 : decode cX10_drawn 25 = .ok (.istore 6, 2) := by decide +kernel
theorem dX10_drawn_27 : decode cX10_drawn 27 = .ok (.iconst 0, 1) := by decide +kernel
theorem dX10_drawn_28 : decode cX10_drawn 28 = .ok (.istore 7, 2) := by decide +kernel
theorem dX10_drawn_30 : decode cX10_drawn 30 = .ok (.iload_n 3, 1) := by decide +kernel
theorem dX10_drawn_31 : decode cX10_drawn 31 = .ok (.istore 8, 2) := by decide +kernel
theorem dX10_drawn_33 : decode cX10_drawn 33 = .ok (.iconst 0, 1) := by decide +kernel
theorem dX10_drawn_34 : decode cX10_drawn 34 = .ok (.istore 9, 2) := by decide +kernel
theorem dX10_drawn_36 : decode cX10_drawn 36 = .ok (.iload 9, 2) := by decide +kernel
theorem dX10_drawn_38 : decode cX10_drawn 38 = .ok (.iload_n 1, 1) := by decide +kernel
theorem dX10_drawn_39 : decode cX10_drawn 39 = .ok (.if_icmp .ge 113, 3) := by decide +kernel
theorem dX10_drawn_42 : decode cX10_drawn 42 = .ok (.iconst 0, 1) := by decide +kernel
theorem dX10_drawn_43 : decode cX10_drawn 43 = .ok (.istore 10, 2) := by decide +kernel
theorem dX10_drawn_45 : decode cX10_drawn 45 = .ok (.iload 10, 2) := by decide +kernel
theorem dX10_drawn_47 : decode cX10_drawn 47 = .ok (.aload_n 0, 1) := by decide +kernel
theorem dX10_drawn_48 : decode cX10_drawn 48 = .ok (.getfield 129, 3) := by decide +kernel
theorem dX10_drawn_51 : decode cX10_drawn 51 = .ok (.if_icmp .ge 95, 3) := by decide +kernel
theorem dX10_drawn_54 : decode cX10_drawn 54 = .ok (.iload 8, 2) := by decide +kernel
theorem dX10_drawn_56 : decode cX10_drawn 56 = .ok (.ldc_w 348, 3) := by decide +kernel
theorem dX10_drawn_59 : decode cX10_drawn 59 = .ok (.imul, 1) := by decide +kernel
theorem dX10_drawn_60 : decode cX10_drawn 60 = .ok (.sipush 12345, 3) := by decide +kernel
theorem dX10_drawn_63 : decode cX10_drawn 63 = .ok (.iadd, 1) := by decide +kernel
theorem dX10_drawn_64 : decode cX10_drawn 64 = .ok (.istore 8, 2) := by decide +kernel
theorem dX10_drawn_66 : decode cX10_drawn 66 = .ok (.iload 8, 2) := by decide +kernel
theorem dX10_drawn_68 : decode cX10_drawn 68 = .ok (.bipush 16, 2) := by decide +kernel
theorem dX10_drawn_70 : decode cX10_drawn 70 = .ok (.iushr, 1) := by decide +kernel
theorem dX10_drawn_71 : decode cX10_drawn 71 = .ok (.sipush 32767, 3) := by decide +kernel
theorem dX10_drawn_74 : decode cX10_drawn 74 = .ok (.iand, 1) := by decide +kernel
theorem dX10_drawn_75 : decode cX10_drawn 75 = .ok (.sipush 1000, 3) := by decide +kernel
theorem dX10_drawn_78 : decode cX10_drawn 78 = .ok (.irem, 1) := by decide +kernel
theorem dX10_drawn_79 : decode cX10_drawn 79 = .ok (.iload_n 2, 1) := by decide +kernel
theorem dX10_drawn_80 : decode cX10_drawn 80 = .ok (.if_icmp .ge 60, 3) := by decide +kernel
theorem dX10_drawn_83 : decode cX10_drawn 83 = .ok (.aload_n 0, 1) := by decide +kernel
theorem dX10_drawn_84 : decode cX10_drawn 84 = .ok (.iload 10, 2) := by decide +kernel
theorem dX10_drawn_86 : decode cX10_drawn 86 = .ok (.invokevirtual 349, 3) := by decide +kernel
theorem dX10_drawn_89 : decode cX10_drawn 89 = .ok (.istore 11, 2) := by decide +kernel
theorem dX10_drawn_91 : decode cX10_drawn 91 = .ok (.iload 7, 2) := by decide +kernel
theorem dX10_drawn_93 : decode cX10_drawn 93 = .ok (.iload 11, 2) := by decide +kernel
theorem dX10_drawn_95 : decode cX10_drawn 95 = .ok (.iconst (-1), 1) := by decide +kernel
theorem dX10_drawn_96 : decode cX10_drawn 96 = .ok (.if_icmp .ne 7, 3) := by decide +kernel
theorem dX10_drawn_99 : decode cX10_drawn 99 = .ok (.iconst 1, 1) := by decide +kernel
theorem dX10_drawn_100 : decode cX10_drawn 100 = .ok (.goto 4, 3) := by decide +kernel
theorem dX10_drawn_103 : decode cX10_drawn 103 = .ok (.iconst 0, 1) := by decide +kernel
theorem dX10_drawn_104 : decode cX10_drawn 104 = .ok (.iadd, 1) := by decide +kernel
theorem dX10_drawn_105 : decode cX10_drawn 105 = .ok (.istore 7, 2) := by decide +kernel
theorem dX10_drawn_107 : decode cX10_drawn 107 = .ok (.iload 6, 2) := by decide +kernel
theorem dX10_drawn_109 : decode cX10_drawn 109 = .ok (.iload 11, 2) := by decide +kernel
theorem dX10_drawn_111 : decode cX10_drawn 111 = .ok (.iconst (-1), 1) := by decide +kernel
theorem dX10_drawn_112 : decode cX10_drawn 112 = .ok (.if_icmp .ne 7, 3) := by decide +kernel
theorem dX10_drawn_115 : decode cX10_drawn 115 = .ok (.iconst 0, 1) := by decide +kernel
theorem dX10_drawn_116 : decode cX10_drawn 116 = .ok (.goto 4, 3) := by decide +kernel
theorem dX10_drawn_119 : decode cX10_drawn 119 = .ok (.iconst 1, 1) := by decide +kernel
theorem dX10_drawn_120 : decode cX10_drawn 120 = .ok (.iadd, 1) := by decide +kernel
theorem dX10_drawn_121 : decode cX10_drawn 121 = .ok (.istore 6, 2) := by decide +kernel
theorem dX10_drawn_123 : decode cX10_drawn 123 = .ok (.iload 5, 2) := by decide +kernel
theorem dX10_drawn_125 : decode cX10_drawn 125 = .ok (.iload 11, 2) := by decide +kernel
theorem dX10_drawn_127 : decode cX10_drawn 127 = .ok (.iconst (-1), 1) := by decide +kernel
theorem dX10_drawn_128 : decode cX10_drawn 128 = .ok (.if_icmp .ne 7, 3) := by decide +kernel
theorem dX10_drawn_131 : decode cX10_drawn 131 = .ok (.iconst 0, 1) := by decide +kernel
theorem dX10_drawn_132 : decode cX10_drawn 132 = .ok (.goto 5, 3) := by decide +kernel
theorem dX10_drawn_135 : decode cX10_drawn 135 = .ok (.iload 11, 2) := by decide +kernel
theorem dX10_drawn_137 : decode cX10_drawn 137 = .ok (.iadd, 1) := by decide +kernel
theorem dX10_drawn_138 : decode cX10_drawn 138 = .ok (.istore 5, 2) := by decide +kernel
theorem dX10_drawn_140 : decode cX10_drawn 140 = .ok (.iinc 10 1, 3) := by decide +kernel
theorem dX10_drawn_143 : decode cX10_drawn 143 = .ok (.goto (-98), 3) := by decide +kernel
theorem dX10_drawn_146 : decode cX10_drawn 146 = .ok (.iinc 9 1, 3) := by decide +kernel
theorem dX10_drawn_149 : decode cX10_drawn 149 = .ok (.goto (-113), 3) := by decide +kernel
theorem dX10_drawn_152 : decode cX10_drawn 152 = .ok (.iload 4, 2) := by decide +kernel
theorem dX10_drawn_154 : decode cX10_drawn 154 = .ok (.lookupswitch 32 #[(0, 26), (1, 29)], 26) := by decide +kernel
theorem dX10_drawn_180 : decode cX10_drawn 180 = .ok (.iload 5, 2) := by decide +kernel
theorem dX10_drawn_182 : decode cX10_drawn 182 = .ok (.ireturn, 1) := by decide +kernel
theorem dX10_drawn_183 : decode cX10_drawn 183 = .ok (.iload 6, 2) := by decide +kernel
theorem dX10_drawn_185 : decode cX10_drawn 185 = .ok (.ireturn, 1) := by decide +kernel
theorem dX10_drawn_186 : decode cX10_drawn 186 = .ok (.iload 7, 2) := by decide +kernel
theorem dX10_drawn_188 : decode cX10_drawn 188 = .ok (.ireturn, 1) := by decide +kernel
theorem dX10_doCheapest_0 : decode cX10_doCheapest 0 = .ok (.aload_n 0, 1) := by decide +kernel
theorem dX10_doCheapest_1 : decode cX10_doCheapest 1 = .ok (.iload_n 1, 1) := by decide +kernel
theorem dX10_doCheapest_2 : decode cX10_doCheapest 2 = .ok (.invokevirtual 158, 3) := by decide +kernel
theorem dX10_doCheapest_5 : decode cX10_doCheapest 5 = .ok (.astore_n 2, 1) := by decide +kernel
theorem dX10_doCheapest_6 : decode cX10_doCheapest 6 = .ok (.aload_n 2, 1) := by decide +kernel
theorem dX10_doCheapest_7 : decode cX10_doCheapest 7 = .ok (.iconst 0, 1) := by decide +kernel
theorem dX10_doCheapest_8 : decode cX10_doCheapest 8 = .ok (.invokevirtual 306, 3) := by decide +kernel
theorem dX10_doCheapest_11 : decode cX10_doCheapest 11 = .ok (.istore_n 3, 1) := by decide +kernel
theorem dX10_doCheapest_12 : decode cX10_doCheapest 12 = .ok (.iload_n 3, 1) := by decide +kernel
theorem dX10_doCheapest_13 : decode cX10_doCheapest 13 = .ok (.iconst (-1), 1) := by decide +kernel
theorem dX10_doCheapest_14 : decode cX10_doCheapest 14 = .ok (.if_icmp .eq 13, 3) := by decide +kernel
theorem dX10_doCheapest_17 : decode cX10_doCheapest 17 = .ok (.aload_n 0, 1) := by decide +kernel
theorem dX10_doCheapest_18 : decode cX10_doCheapest 18 = .ok (.getfield 40, 3) := by decide +kernel
theorem dX10_doCheapest_21 : decode cX10_doCheapest 21 = .ok (.invokevirtual 225, 3) := by decide +kernel
theorem dX10_doCheapest_24 : decode cX10_doCheapest 24 = .ok (.ifCond .eq 5, 3) := by decide +kernel
theorem dX10_doCheapest_27 : decode cX10_doCheapest 27 = .ok (.iconst (-1), 1) := by decide +kernel
theorem dX10_doCheapest_28 : decode cX10_doCheapest 28 = .ok (.ireturn, 1) := by decide +kernel
theorem dX10_doCheapest_29 : decode cX10_doCheapest 29 = .ok (.aload_n 0, 1) := by decide +kernel
theorem dX10_doCheapest_30 : decode cX10_doCheapest 30 = .ok (.getfield 40, 3) := by decide +kernel
theorem dX10_doCheapest_33 : decode cX10_doCheapest 33 = .ok (.iload_n 1, 1) := by decide +kernel
theorem dX10_doCheapest_34 : decode cX10_doCheapest 34 = .ok (.iload_n 3, 1) := by decide +kernel
theorem dX10_doCheapest_35 : decode cX10_doCheapest 35 = .ok (.invokevirtual 229, 3) := by decide +kernel
theorem dX10_doCheapest_38 : decode cX10_doCheapest 38 = .ok (.aload_n 2, 1) := by decide +kernel
theorem dX10_doCheapest_39 : decode cX10_doCheapest 39 = .ok (.iload_n 3, 1) := by decide +kernel
theorem dX10_doCheapest_40 : decode cX10_doCheapest 40 = .ok (.invokevirtual 232, 3) := by decide +kernel
theorem dX10_doCheapest_43 : decode cX10_doCheapest 43 = .ok (.aload_n 2, 1) := by decide +kernel
theorem dX10_doCheapest_44 : decode cX10_doCheapest 44 = .ok (.iload_n 3, 1) := by decide +kernel
theorem dX10_doCheapest_45 : decode cX10_doCheapest 45 = .ok (.invokevirtual 196, 3) := by decide +kernel
theorem dX10_doCheapest_48 : decode cX10_doCheapest 48 = .ok (.ireturn, 1) := by decide +kernel
theorem dX10_image_0 : decode cX10_image 0 = .ok (.aload_n 0, 1) := by decide +kernel
theorem dX10_image_1 : decode cX10_image 1 = .ok (.getfield 44, 3) := by decide +kernel
theorem dX10_image_4 : decode cX10_image 4 = .ok (.aload_n 0, 1) := by decide +kernel
theorem dX10_image_5 : decode cX10_image 5 = .ok (.getfield 40, 3) := by decide +kernel
theorem dX10_image_8 : decode cX10_image 8 = .ok (.invokevirtual 352, 3) := by decide +kernel
theorem dX10_image_11 : decode cX10_image 11 = .ok (.aload_n 0, 1) := by decide +kernel
theorem dX10_image_12 : decode cX10_image 12 = .ok (.iconst 1, 1) := by decide +kernel
theorem dX10_image_13 : decode cX10_image 13 = .ok (.putfield 142, 3) := by decide +kernel
theorem dX10_image_16 : decode cX10_image 16 = .ok (.return_, 1) := by decide +kernel
theorem dX10_restore_0 : decode cX10_restore 0 = .ok (.aload_n 0, 1) := by decide +kernel
theorem dX10_restore_1 : decode cX10_restore 1 = .ok (.getfield 142, 3) := by decide +kernel
theorem dX10_restore_4 : decode cX10_restore 4 = .ok (.ifCond .ne 5, 3) := by decide +kernel
theorem dX10_restore_7 : decode cX10_restore 7 = .ok (.iconst 0, 1) := by decide +kernel
theorem dX10_restore_8 : decode cX10_restore 8 = .ok (.ireturn, 1) := by decide +kernel
theorem dX10_restore_9 : decode cX10_restore 9 = .ok (.aload_n 0, 1) := by decide +kernel
theorem dX10_restore_10 : decode cX10_restore 10 = .ok (.getfield 40, 3) := by decide +kernel
theorem dX10_restore_13 : decode cX10_restore 13 = .ok (.aload_n 0, 1) := by decide +kernel
theorem dX10_restore_14 : decode cX10_restore 14 = .ok (.getfield 44, 3) := by decide +kernel
theorem dX10_restore_17 : decode cX10_restore 17 = .ok (.invokevirtual 352, 3) := by decide +kernel
theorem dX10_restore_20 : decode cX10_restore 20 = .ok (.iconst 0, 1) := by decide +kernel
theorem dX10_restore_21 : decode cX10_restore 21 = .ok (.istore_n 1, 1) := by decide +kernel
theorem dX10_restore_22 : decode cX10_restore 22 = .ok (.iload_n 1, 1) := by decide +kernel
theorem dX10_restore_23 : decode cX10_restore 23 = .ok (.aload_n 0, 1) := by decide +kernel
theorem dX10_restore_24 : decode cX10_restore 24 = .ok (.getfield 129, 3) := by decide +kernel
theorem dX10_restore_27 : decode cX10_restore 27 = .ok (.if_icmp .ge 18, 3) := by decide +kernel
theorem dX10_restore_30 : decode cX10_restore 30 = .ok (.aload_n 0, 1) := by decide +kernel
theorem dX10_restore_31 : decode cX10_restore 31 = .ok (.getfield 33, 3) := by decide +kernel
theorem dX10_restore_34 : decode cX10_restore 34 = .ok (.iload_n 1, 1) := by decide +kernel
theorem dX10_restore_35 : decode cX10_restore 35 = .ok (.aaload, 1) := by decide +kernel
theorem dX10_restore_36 : decode cX10_restore 36 = .ok (.invokevirtual 356, 3) := by decide +kernel
theorem dX10_restore_39 : decode cX10_restore 39 = .ok (.iinc 1 1, 3) := by decide +kernel
theorem dX10_restore_42 : decode cX10_restore 42 = .ok (.goto (-20), 3) := by decide +kernel
theorem dX10_restore_45 : decode cX10_restore 45 = .ok (.iconst 0, 1) := by decide +kernel
theorem dX10_restore_46 : decode cX10_restore 46 = .ok (.istore_n 1, 1) := by decide +kernel
theorem dX10_restore_47 : decode cX10_restore 47 = .ok (.iload_n 1, 1) := by decide +kernel
theorem dX10_restore_48 : decode cX10_restore 48 = .ok (.aload_n 0, 1) := by decide +kernel
theorem dX10_restore_49 : decode cX10_restore 49 = .ok (.getfield 40, 3) := by decide +kernel
theorem dX10_restore_52 : decode cX10_restore 52 = .ok (.getfield 146, 3) := by decide +kernel
theorem dX10_restore_55 : decode cX10_restore 55 = .ok (.if_icmp .ge 47, 3) := by decide +kernel
theorem dX10_restore_58 : decode cX10_restore 58 = .ok (.aload_n 0, 1) := by decide +kernel
theorem dX10_restore_59 : decode cX10_restore 59 = .ok (.getfield 40, 3) := by decide +kernel
theorem dX10_restore_62 : decode cX10_restore 62 = .ok (.iload_n 1, 1) := by decide +kernel
theorem dX10_restore_63 : decode cX10_restore 63 = .ok (.invokevirtual 237, 3) := by decide +kernel
theorem dX10_restore_66 : decode cX10_restore 66 = .ok (.istore_n 2, 1) := by decide +kernel
theorem dX10_restore_67 : decode cX10_restore 67 = .ok (.iload_n 2, 1) := by decide +kernel
theorem dX10_restore_68 : decode cX10_restore 68 = .ok (.ifCond .lt 28, 3) := by decide +kernel
theorem dX10_restore_71 : decode cX10_restore 71 = .ok (.iload_n 2, 1) := by decide +kernel
theorem dX10_restore_72 : decode cX10_restore 72 = .ok (.aload_n 0, 1) := by decide +kernel
theorem dX10_restore_73 : decode cX10_restore 73 = .ok (.getfield 129, 3) := by decide +kernel
theorem dX10_restore_76 : decode cX10_restore 76 = .ok (.if_icmp .ge 20, 3) := by decide +kernel
theorem dX10_restore_79 : decode cX10_restore 79 = .ok (.aload_n 0, 1) := by decide +kernel
theorem dX10_restore_80 : decode cX10_restore 80 = .ok (.getfield 33, 3) := by decide +kernel
theorem dX10_restore_83 : decode cX10_restore 83 = .ok (.iload_n 2, 1) := by decide +kernel
theorem dX10_restore_84 : decode cX10_restore 84 = .ok (.aaload, 1) := by decide +kernel
theorem dX10_restore_85 : decode cX10_restore 85 = .ok (.aload_n 0, 1) := by decide +kernel
theorem dX10_restore_86 : decode cX10_restore 86 = .ok (.getfield 40, 3) := by decide +kernel
theorem dX10_restore_89 : decode cX10_restore 89 = .ok (.iload_n 1, 1) := by decide +kernel
theorem dX10_restore_90 : decode cX10_restore 90 = .ok (.invokevirtual 240, 3) := by decide +kernel
theorem dX10_restore_93 : decode cX10_restore 93 = .ok (.invokevirtual 232, 3) := by decide +kernel
theorem dX10_restore_96 : decode cX10_restore 96 = .ok (.iinc 1 1, 3) := by decide +kernel
theorem dX10_restore_99 : decode cX10_restore 99 = .ok (.goto (-52), 3) := by decide +kernel
theorem dX10_restore_102 : decode cX10_restore 102 = .ok (.iconst 1, 1) := by decide +kernel
theorem dX10_restore_103 : decode cX10_restore 103 = .ok (.ireturn, 1) := by decide +kernel
theorem dX10_workOf_0 : decode cX10_workOf 0 = .ok (.iload_n 1, 1) := by decide +kernel
theorem dX10_workOf_1 : decode cX10_workOf 1 = .ok (.ifCond .lt 11, 3) := by decide +kernel
theorem dX10_workOf_4 : decode cX10_workOf 4 = .ok (.iload_n 1, 1) := by decide +kernel
theorem dX10_workOf_5 : decode cX10_workOf 5 = .ok (.aload_n 0, 1) := by decide +kernel
theorem dX10_workOf_6 : decode cX10_workOf 6 = .ok (.getfield 129, 3) := by decide +kernel
theorem dX10_workOf_9 : decode cX10_workOf 9 = .ok (.if_icmp .lt 14, 3) := by decide +kernel
theorem dX10_workOf_12 : decode cX10_workOf 12 = .ok (.new 153, 3) := by decide +kernel
theorem dX10_workOf_15 : decode cX10_workOf 15 = .ok (.dup, 1) := by decide +kernel
theorem dX10_workOf_16 : decode cX10_workOf 16 = .ok (.ldc_w 359, 3) := by decide +kernel
theorem dX10_workOf_19 : decode cX10_workOf 19 = .ok (.invokespecial 157, 3) := by decide +kernel
theorem dX10_workOf_22 : decode cX10_workOf 22 = .ok (.athrow, 1) := by decide +kernel
theorem dX10_workOf_23 : decode cX10_workOf 23 = .ok (.aload_n 0, 1) := by decide +kernel
theorem dX10_workOf_24 : decode cX10_workOf 24 = .ok (.getfield 33, 3) := by decide +kernel
theorem dX10_workOf_27 : decode cX10_workOf 27 = .ok (.iload_n 1, 1) := by decide +kernel
theorem dX10_workOf_28 : decode cX10_workOf 28 = .ok (.aaload, 1) := by decide +kernel
theorem dX10_workOf_29 : decode cX10_workOf 29 = .ok (.areturn, 1) := by decide +kernel
theorem dX10_refuseUnlessWay_0 : decode cX10_refuseUnlessWay 0 = .ok (.aload_n 0, 1) := by decide +kernel
theorem dX10_refuseUnlessWay_1 : decode cX10_refuseUnlessWay 1 = .ok (.iload_n 1, 1) := by decide +kernel
theorem dX10_refuseUnlessWay_2 : decode cX10_refuseUnlessWay 2 = .ok (.invokevirtual 361, 3) := by decide +kernel
theorem dX10_refuseUnlessWay_5 : decode cX10_refuseUnlessWay 5 = .ok (.ifCond .ne 14, 3) := by decide +kernel
theorem dX10_refuseUnlessWay_8 : decode cX10_refuseUnlessWay 8 = .ok (.new 153, 3) := by decide +kernel
theorem dX10_refuseUnlessWay_11 : decode cX10_refuseUnlessWay 11 = .ok (.dup, 1) := by decide +kernel
theorem dX10_refuseUnlessWay_12 : decode cX10_refuseUnlessWay 12 = .ok (.ldc_w 364, 3) := by decide +kernel
theorem dX10_refuseUnlessWay_15 : decode cX10_refuseUnlessWay 15 = .ok (.invokespecial 157, 3) := by decide +kernel
theorem dX10_refuseUnlessWay_18 : decode cX10_refuseUnlessWay 18 = .ok (.athrow, 1) := by decide +kernel
theorem dX10_refuseUnlessWay_19 : decode cX10_refuseUnlessWay 19 = .ok (.return_, 1) := by decide +kernel
theorem dX10_refuseUnlessWhat_0 : decode cX10_refuseUnlessWhat 0 = .ok (.iload_n 0, 1) := by decide +kernel
theorem dX10_refuseUnlessWhat_1 : decode cX10_refuseUnlessWhat 1 = .ok (.ifCond .lt 8, 3) := by decide +kernel
theorem dX10_refuseUnlessWhat_4 : decode cX10_refuseUnlessWhat 4 = .ok (.iload_n 0, 1) := by decide +kernel
theorem dX10_refuseUnlessWhat_5 : decode cX10_refuseUnlessWhat 5 = .ok (.iload_n 1, 1) := by decide +kernel
theorem dX10_refuseUnlessWhat_6 : decode cX10_refuseUnlessWhat 6 = .ok (.if_icmp .lt 13, 3) := by decide +kernel
theorem dX10_refuseUnlessWhat_9 : decode cX10_refuseUnlessWhat 9 = .ok (.new 153, 3) := by decide +kernel
theorem dX10_refuseUnlessWhat_12 : decode cX10_refuseUnlessWhat 12 = .ok (.dup, 1) := by decide +kernel
theorem dX10_refuseUnlessWhat_13 : decode cX10_refuseUnlessWhat 13 = .ok (.ldc 155, 2) := by decide +kernel
theorem dX10_refuseUnlessWhat_15 : decode cX10_refuseUnlessWhat 15 = .ok (.invokespecial 157, 3) := by decide +kernel
theorem dX10_refuseUnlessWhat_18 : decode cX10_refuseUnlessWhat 18 = .ok (.athrow, 1) := by decide +kernel
theorem dX10_refuseUnlessWhat_19 : decode cX10_refuseUnlessWhat 19 = .ok (.return_, 1) := by decide +kernel
theorem dX10_refuseUnlessWithin_0 : decode cX10_refuseUnlessWithin 0 = .ok (.iload_n 0, 1) := by decide +kernel
theorem dX10_refuseUnlessWithin_1 : decode cX10_refuseUnlessWithin 1 = .ok (.iload_n 1, 1) := by decide +kernel
theorem dX10_refuseUnlessWithin_2 : decode cX10_refuseUnlessWithin 2 = .ok (.if_icmp .lt 8, 3) := by decide +kernel
theorem dX10_refuseUnlessWithin_5 : decode cX10_refuseUnlessWithin 5 = .ok (.iload_n 0, 1) := by decide +kernel
theorem dX10_refuseUnlessWithin_6 : decode cX10_refuseUnlessWithin 6 = .ok (.iload_n 2, 1) := by decide +kernel
theorem dX10_refuseUnlessWithin_7 : decode cX10_refuseUnlessWithin 7 = .ok (.if_icmp .le 14, 3) := by decide +kernel
theorem dX10_refuseUnlessWithin_10 : decode cX10_refuseUnlessWithin 10 = .ok (.new 101, 3) := by decide +kernel
theorem dX10_refuseUnlessWithin_13 : decode cX10_refuseUnlessWithin 13 = .ok (.dup, 1) := by decide +kernel
theorem dX10_refuseUnlessWithin_14 : decode cX10_refuseUnlessWithin 14 = .ok (.ldc_w 366, 3) := by decide +kernel
theorem dX10_refuseUnlessWithin_17 : decode cX10_refuseUnlessWithin 17 = .ok (.invokespecial 105, 3) := by decide +kernel
theorem dX10_refuseUnlessWithin_20 : decode cX10_refuseUnlessWithin 20 = .ok (.athrow, 1) := by decide +kernel
theorem dX10_refuseUnlessWithin_21 : decode cX10_refuseUnlessWithin 21 = .ok (.return_, 1) := by decide +kernel
theorem dX10_at_0 : decode cX10_at 0 = .ok (.iload_n 1, 1) := by decide +kernel
theorem dX10_at_1 : decode cX10_at 1 = .ok (.ifCond .lt 15, 3) := by decide +kernel
theorem dX10_at_4 : decode cX10_at 4 = .ok (.iload_n 1, 1) := by decide +kernel
theorem dX10_at_5 : decode cX10_at 5 = .ok (.aload_n 0, 1) := by decide +kernel
theorem dX10_at_6 : decode cX10_at 6 = .ok (.arraylength, 1) := by decide +kernel
theorem dX10_at_7 : decode cX10_at 7 = .ok (.if_icmp .ge 9, 3) := by decide +kernel
theorem dX10_at_10 : decode cX10_at 10 = .ok (.aload_n 0, 1) := by decide +kernel
theorem dX10_at_11 : decode cX10_at 11 = .ok (.iload_n 1, 1) := by decide +kernel
theorem dX10_at_12 : decode cX10_at 12 = .ok (.iaload, 1) := by decide +kernel
theorem dX10_at_13 : decode cX10_at 13 = .ok (.goto 4, 3) := by decide +kernel
theorem dX10_at_16 : decode cX10_at 16 = .ok (.iconst 0, 1) := by decide +kernel
theorem dX10_at_17 : decode cX10_at 17 = .ok (.ireturn, 1) := by decide +kernel
theorem dX10_put_0 : decode cX10_put 0 = .ok (.iload_n 1, 1) := by decide +kernel
theorem dX10_put_1 : decode cX10_put 1 = .ok (.ifCond .lt 13, 3) := by decide +kernel
theorem dX10_put_4 : decode cX10_put 4 = .ok (.iload_n 1, 1) := by decide +kernel
theorem dX10_put_5 : decode cX10_put 5 = .ok (.aload_n 0, 1) := by decide +kernel
theorem dX10_put_6 : decode cX10_put 6 = .ok (.arraylength, 1) := by decide +kernel
theorem dX10_put_7 : decode cX10_put 7 = .ok (.if_icmp .ge 7, 3) := by decide +kernel
theorem dX10_put_10 : decode cX10_put 10 = .ok (.aload_n 0, 1) := by decide +kernel
theorem dX10_put_11 : decode cX10_put 11 = .ok (.iload_n 1, 1) := by decide +kernel
theorem dX10_put_12 : decode cX10_put 12 = .ok (.iload_n 2, 1) := by decide +kernel
theorem dX10_put_13 : decode cX10_put 13 = .ok (.iastore, 1) := by decide +kernel
theorem dX10_put_14 : decode cX10_put 14 = .ok (.return_, 1) := by decide +kernel
theorem dX11_init_0 : decode cX11_init 0 = .ok (.aload_n 0, 1) := by decide +kernel
theorem dX11_init_1 : decode cX11_init 1 = .ok (.invokespecial 1, 3) := by decide +kernel
theorem dX11_init_4 : decode cX11_init 4 = .ok (.aload_n 0, 1) := by decide +kernel
theorem dX11_init_5 : decode cX11_init 5 = .ok (.iconst 3, 1) := by decide +kernel
theorem dX11_init_6 : decode cX11_init 6 = .ok (.anewarray 7, 3) := by decide +kernel
theorem dX11_init_9 : decode cX11_init 9 = .ok (.dup, 1) := by decide +kernel
theorem dX11_init_10 : decode cX11_init 10 = .ok (.iconst 0, 1) := by decide +kernel
theorem dX11_init_11 : decode cX11_init 11 = .ok (.ldc 9, 2) := by decide +kernel
theorem dX11_init_13 : decode cX11_init 13 = .ok (.aastore, 1) := by decide +kernel
theorem dX11_init_14 : decode cX11_init 14 = .ok (.dup, 1) := by decide +kernel
theorem dX11_init_15 : decode cX11_init 15 = .ok (.iconst 1, 1) := by decide +kernel
theorem dX11_init_16 : decode cX11_init 16 = .ok (.ldc 11, 2) := by decide +kernel
theorem dX11_init_18 : decode cX11_init 18 = .ok (.aastore, 1) := by decide +kernel
theorem dX11_init_19 : decode cX11_init 19 = .ok (.dup, 1) := by decide +kernel
theorem dX11_init_20 : decode cX11_init 20 = .ok (.iconst 2, 1) := by decide +kernel
theorem dX11_init_21 : decode cX11_init 21 = .ok (.ldc 13, 2) := by decide +kernel
theorem dX11_init_23 : decode cX11_init 23 = .ok (.aastore, 1) := by decide +kernel
theorem dX11_init_24 : decode cX11_init 24 = .ok (.putfield 15, 3) := by decide +kernel
theorem dX11_init_27 : decode cX11_init 27 = .ok (.aload_n 0, 1) := by decide +kernel
theorem dX11_init_28 : decode cX11_init 28 = .ok (.bipush 12, 2) := by decide +kernel
theorem dX11_init_30 : decode cX11_init 30 = .ok (.newarray .int, 2) := by decide +kernel
theorem dX11_init_32 : decode cX11_init 32 = .ok (.putfield 21, 3) := by decide +kernel
theorem dX11_init_35 : decode cX11_init 35 = .ok (.aload_n 0, 1) := by decide +kernel
theorem dX11_init_36 : decode cX11_init 36 = .ok (.bipush 12, 2) := by decide +kernel
theorem dX11_init_38 : decode cX11_init 38 = .ok (.newarray .int, 2) := by decide +kernel
theorem dX11_init_40 : decode cX11_init 40 = .ok (.putfield 25, 3) := by decide +kernel
theorem dX11_init_43 : decode cX11_init 43 = .ok (.aload_n 0, 1) := by decide +kernel
theorem dX11_init_44 : decode cX11_init 44 = .ok (.bipush 12, 2) := by decide +kernel
theorem dX11_init_46 : decode cX11_init 46 = .ok (.newarray .int, 2) := by decide +kernel
theorem dX11_init_48 : decode cX11_init 48 = .ok (.putfield 28, 3) := by decide +kernel
theorem dX11_init_51 : decode cX11_init 51 = .ok (.aload_n 0, 1) := by decide +kernel
theorem dX11_init_52 : decode cX11_init 52 = .ok (.bipush 12, 2) := by decide +kernel
theorem dX11_init_54 : decode cX11_init 54 = .ok (.newarray .int, 2) := by decide +kernel
theorem dX11_init_56 : decode cX11_init 56 = .ok (.putfield 31, 3) := by decide +kernel
theorem dX11_init_59 : decode cX11_init 59 = .ok (.aload_n 0, 1) := by decide +kernel
theorem dX11_init_60 : decode cX11_init 60 = .ok (.bipush 12, 2) := by decide +kernel
theorem dX11_init_62 : decode cX11_init 62 = .ok (.newarray .int, 2) := by decide +kernel
theorem dX11_init_64 : decode cX11_init 64 = .ok (.putfield 34, 3) := by decide +kernel
theorem dX11_init_67 : decode cX11_init 67 = .ok (.aload_n 0, 1) := by decide +kernel
theorem dX11_init_68 : decode cX11_init 68 = .ok (.bipush 12, 2) := by decide +kernel
theorem dX11_init_70 : decode cX11_init 70 = .ok (.newarray .int, 2) := by decide +kernel
theorem dX11_init_72 : decode cX11_init 72 = .ok (.putfield 37, 3) := by decide +kernel
theorem dX11_init_75 : decode cX11_init 75 = .ok (.aload_n 0, 1) := by decide +kernel
theorem dX11_init_76 : decode cX11_init 76 = .ok (.bipush 12, 2) := by decide +kernel
theorem dX11_init_78 : decode cX11_init 78 = .ok (.newarray .int, 2) := by decide +kernel
theorem dX11_init_80 : decode cX11_init 80 = .ok (.putfield 40, 3) := by decide +kernel
theorem dX11_init_83 : decode cX11_init 83 = .ok (.aload_n 0, 1) := by decide +kernel
theorem dX11_init_84 : decode cX11_init 84 = .ok (.sipush 240, 3) := by decide +kernel
theorem dX11_init_87 : decode cX11_init 87 = .ok (.newarray .int, 2) := by decide +kernel
theorem dX11_init_89 : decode cX11_init 89 = .ok (.putfield 43, 3) := by decide +kernel
theorem dX11_init_92 : decode cX11_init 92 = .ok (.aload_n 0, 1) := by decide +kernel
theorem dX11_init_93 : decode cX11_init 93 = .ok (.sipush 240, 3) := by decide +kernel
theorem dX11_init_96 : decode cX11_init 96 = .ok (.newarray .int, 2) := by decide +kernel
theorem dX11_init_98 : decode cX11_init 98 = .ok (.putfield 46, 3) := by decide +kernel
theorem dX11_init_101 : decode cX11_init 101 = .ok (.aload_n 0, 1) := by decide +kernel
theorem dX11_init_102 : decode cX11_init 102 = .ok (.sipush 240, 3) := by decide +kernel
theorem dX11_init_105 : decode cX11_init 105 = .ok (.newarray .int, 2) := by decide +kernel
theorem dX11_init_107 : decode cX11_init 107 = .ok (.putfield 49, 3) := by decide +kernel
theorem dX11_init_110 : decode cX11_init 110 = .ok (.aload_n 0, 1) := by decide +kernel
theorem dX11_init_111 : decode cX11_init 111 = .ok (.sipush 144, 3) := by decide +kernel
theorem dX11_init_114 : decode cX11_init 114 = .ok (.newarray .int, 2) := by decide +kernel
theorem dX11_init_116 : decode cX11_init 116 = .ok (.putfield 52, 3) := by decide +kernel
theorem dX11_init_119 : decode cX11_init 119 = .ok (.aload_n 0, 1) := by decide +kernel
theorem dX11_init_120 : decode cX11_init 120 = .ok (.sipush 144, 3) := by decide +kernel
theorem dX11_init_123 : decode cX11_init 123 = .ok (.newarray .int, 2) := by decide +kernel
theorem dX11_init_125 : decode cX11_init 125 = .ok (.putfield 55, 3) := by decide +kernel
theorem dX11_init_128 : decode cX11_init 128 = .ok (.aload_n 0, 1) := by decide +kernel
theorem dX11_init_129 : decode cX11_init 129 = .ok (.sipush 144, 3) := by decide +kernel
theorem dX11_init_132 : decode cX11_init 132 = .ok (.newarray .int, 2) := by decide +kernel
theorem dX11_init_134 : decode cX11_init 134 = .ok (.putfield 58, 3) := by decide +kernel
theorem dX11_init_137 : decode cX11_init 137 = .ok (.aload_n 0, 1) := by decide +kernel
theorem dX11_init_138 : decode cX11_init 138 = .ok (.bipush 6, 2) := by decide +kernel
theorem dX11_init_140 : decode cX11_init 140 = .ok (.newarray .int, 2) := by decide +kernel
theorem dX11_init_142 : decode cX11_init 142 = .ok (.putfield 61, 3) := by decide +kernel
theorem dX11_init_145 : decode cX11_init 145 = .ok (.aload_n 0, 1) := by decide +kernel
theorem dX11_init_146 : decode cX11_init 146 = .ok (.sipush 12000, 3) := by decide +kernel
theorem dX11_init_149 : decode cX11_init 149 = .ok (.newarray .int, 2) := by decide +kernel
theorem dX11_init_151 : decode cX11_init 151 = .ok (.putfield 64, 3) := by decide +kernel
theorem dX11_init_154 : decode cX11_init 154 = .ok (.aload_n 0, 1) := by decide +kernel
theorem dX11_init_155 : decode cX11_init 155 = .ok (.sipush 12000, 3) := by decide +kernel
theorem dX11_init_158 : decode cX11_init 158 = .ok (.newarray .int, 2) := by decide +kernel
theorem dX11_init_160 : decode cX11_init 160 = .ok (.putfield 67, 3) := by decide +kernel
theorem dX11_init_163 : decode cX11_init 163 = .ok (.aload_n 0, 1) := by decide +kernel
theorem dX11_init_164 : decode cX11_init 164 = .ok (.sipush 12000, 3) := by decide +kernel
theorem dX11_init_167 : decode cX11_init 167 = .ok (.newarray .boolean, 2) := by decide +kernel
theorem dX11_init_169 : decode cX11_init 169 = .ok (.putfield 70, 3) := by decide +kernel
theorem dX11_init_172 : decode cX11_init 172 = .ok (.aload_n 0, 1) := by decide +kernel
theorem dX11_init_173 : decode cX11_init 173 = .ok (.sipush 400, 3) := by decide +kernel
theorem dX11_init_176 : decode cX11_init 176 = .ok (.newarray .int, 2) := by decide +kernel
theorem dX11_init_178 : decode cX11_init 178 = .ok (.putfield 74, 3) := by decide +kernel
theorem dX11_init_181 : decode cX11_init 181 = .ok (.aload_n 0, 1) := by decide +kernel
theorem dX11_init_182 : decode cX11_init 182 = .ok (.sipush 400, 3) := by decide +kernel
theorem dX11_init_185 : decode cX11_init 185 = .ok (.newarray .int, 2) := by decide +kernel
theorem dX11_init_187 : decode cX11_init 187 = .ok (.putfield 77, 3) := by decide +kernel
theorem dX11_init_190 : decode cX11_init 190 = .ok (.aload_n 0, 1) := by decide +kernel
theorem dX11_init_191 : decode cX11_init 191 = .ok (.bipush 6, 2) := by decide +kernel
theorem dX11_init_193 : decode cX11_init 193 = .ok (.newarray .int, 2) := by decide +kernel
theorem dX11_init_195 : decode cX11_init 195 = .ok (.putfield 80, 3) := by decide +kernel
theorem dX11_init_198 : decode cX11_init 198 = .ok (.aload_n 0, 1) := by decide +kernel
theorem dX11_init_199 : decode cX11_init 199 = .ok (.sipush 600, 3) := by decide +kernel
theorem dX11_init_202 : decode cX11_init 202 = .ok (.newarray .int, 2) := by decide +kernel
theorem dX11_init_204 : decode cX11_init 204 = .ok (.putfield 83, 3) := by decide +kernel
theorem dX11_init_207 : decode cX11_init 207 = .ok (.aload_n 0, 1) := by decide +kernel
theorem dX11_init_208 : decode cX11_init 208 = .ok (.bipush 6, 2) := by decide +kernel
theorem dX11_init_210 : decode cX11_init 210 = .ok (.newarray .int, 2) := by decide +kernel
theorem dX11_init_212 : decode cX11_init 212 = .ok (.putfield 86, 3) := by decide +kernel
theorem dX11_init_215 : decode cX11_init 215 = .ok (.aload_n 0, 1) := by decide +kernel
theorem dX11_init_216 : decode cX11_init 216 = .ok (.bipush 72, 2) := by decide +kernel
theorem dX11_init_218 : decode cX11_init 218 = .ok (.newarray .int, 2) := by decide +kernel
theorem dX11_init_220 : decode cX11_init 220 = .ok (.putfield 89, 3) := by decide +kernel
theorem dX11_init_223 : decode cX11_init 223 = .ok (.aload_n 0, 1) := by decide +kernel
theorem dX11_init_224 : decode cX11_init 224 = .ok (.bipush 100, 2) := by decide +kernel
theorem dX11_init_226 : decode cX11_init 226 = .ok (.newarray .int, 2) := by decide +kernel
theorem dX11_init_228 : decode cX11_init 228 = .ok (.putfield 92, 3) := by decide +kernel
theorem dX11_init_231 : decode cX11_init 231 = .ok (.aload_n 0, 1) := by decide +kernel
theorem dX11_init_232 : decode cX11_init 232 = .ok (.iconst 4, 1) := by decide +kernel
theorem dX11_init_233 : decode cX11_init 233 = .ok (.newarray .int, 2) := by decide +kernel
theorem dX11_init_235 : decode cX11_init 235 = .ok (.putfield 95, 3) := by decide +kernel
theorem dX11_init_238 : decode cX11_init 238 = .ok (.aload_n 0, 1) := by decide +kernel
theorem dX11_init_239 : decode cX11_init 239 = .ok (.sipush 700, 3) := by decide +kernel
theorem dX11_init_242 : decode cX11_init 242 = .ok (.newarray .int, 2) := by decide +kernel
theorem dX11_init_244 : decode cX11_init 244 = .ok (.putfield 98, 3) := by decide +kernel
theorem dX11_init_247 : decode cX11_init 247 = .ok (.aload_n 0, 1) := by decide +kernel
theorem dX11_init_248 : decode cX11_init 248 = .ok (.iconst (-1), 1) := by decide +kernel
theorem dX11_init_249 : decode cX11_init 249 = .ok (.putfield 101, 3) := by decide +kernel
theorem dX11_init_252 : decode cX11_init 252 = .ok (.aload_n 0, 1) := by decide +kernel
theorem dX11_init_253 : decode cX11_init 253 = .ok (.bipush 14, 2) := by decide +kernel
theorem dX11_init_255 : decode cX11_init 255 = .ok (.newarray .int, 2) := by decide +kernel
theorem dX11_init_257 : decode cX11_init 257 = .ok (.putfield 105, 3) := by decide +kernel
theorem dX11_init_260 : decode cX11_init 260 = .ok (.aload_n 0, 1) := by decide +kernel
theorem dX11_init_261 : decode cX11_init 261 = .ok (.sipush 2000, 3) := by decide +kernel
theorem dX11_init_264 : decode cX11_init 264 = .ok (.newarray .boolean, 2) := by decide +kernel
theorem dX11_init_266 : decode cX11_init 266 = .ok (.putfield 108, 3) := by decide +kernel
theorem dX11_init_269 : decode cX11_init 269 = .ok (.aload_n 0, 1) := by decide +kernel
theorem dX11_init_270 : decode cX11_init 270 = .ok (.sipush 2000, 3) := by decide +kernel
theorem dX11_init_273 : decode cX11_init 273 = .ok (.newarray .int, 2) := by decide +kernel
theorem dX11_init_275 : decode cX11_init 275 = .ok (.putfield 111, 3) := by decide +kernel
theorem dX11_init_278 : decode cX11_init 278 = .ok (.aload_n 0, 1) := by decide +kernel
theorem dX11_init_279 : decode cX11_init 279 = .ok (.bipush 101, 2) := by decide +kernel
theorem dX11_init_281 : decode cX11_init 281 = .ok (.newarray .long, 2) := by decide +kernel
theorem dX11_init_283 : decode cX11_init 283 = .ok (.putfield 114, 3) := by decide +kernel
theorem dX11_init_286 : decode cX11_init 286 = .ok (.aload_n 0, 1) := by decide +kernel
theorem dX11_init_287 : decode cX11_init 287 = .ok (.bipush 101, 2) := by decide +kernel
theorem dX11_init_289 : decode cX11_init 289 = .ok (.newarray .long, 2) := by decide +kernel
theorem dX11_init_291 : decode cX11_init 291 = .ok (.putfield 118, 3) := by decide +kernel
theorem dX11_init_294 : decode cX11_init 294 = .ok (.aload_n 0, 1) := by decide +kernel
theorem dX11_init_295 : decode cX11_init 295 = .ok (.bipush 12, 2) := by decide +kernel
theorem dX11_init_297 : decode cX11_init 297 = .ok (.newarray .int, 2) := by decide +kernel
theorem dX11_init_299 : decode cX11_init 299 = .ok (.putfield 121, 3) := by decide +kernel
theorem dX11_init_302 : decode cX11_init 302 = .ok (.aload_n 0, 1) := by decide +kernel
theorem dX11_init_303 : decode cX11_init 303 = .ok (.bipush 12, 2) := by decide +kernel
theorem dX11_init_305 : decode cX11_init 305 = .ok (.newarray .int, 2) := by decide +kernel
theorem dX11_init_307 : decode cX11_init 307 = .ok (.putfield 124, 3) := by decide +kernel
theorem dX11_init_310 : decode cX11_init 310 = .ok (.aload_n 0, 1) := by decide +kernel
theorem dX11_init_311 : decode cX11_init 311 = .ok (.bipush 12, 2) := by decide +kernel
theorem dX11_init_313 : decode cX11_init 313 = .ok (.newarray .int, 2) := by decide +kernel
theorem dX11_init_315 : decode cX11_init 315 = .ok (.putfield 127, 3) := by decide +kernel
theorem dX11_init_318 : decode cX11_init 318 = .ok (.aload_n 0, 1) := by decide +kernel
theorem dX11_init_319 : decode cX11_init 319 = .ok (.sipush 400, 3) := by decide +kernel
theorem dX11_init_322 : decode cX11_init 322 = .ok (.newarray .int, 2) := by decide +kernel
theorem dX11_init_324 : decode cX11_init 324 = .ok (.putfield 130, 3) := by decide +kernel
theorem dX11_init_327 : decode cX11_init 327 = .ok (.aload_n 0, 1) := by decide +kernel
theorem dX11_init_328 : decode cX11_init 328 = .ok (.sipush 400, 3) := by decide +kernel
theorem dX11_init_331 : decode cX11_init 331 = .ok (.newarray .int, 2) := by decide +kernel
theorem dX11_init_333 : decode cX11_init 333 = .ok (.putfield 133, 3) := by decide +kernel
theorem dX11_init_336 : decode cX11_init 336 = .ok (.aload_n 0, 1) := by decide +kernel
theorem dX11_init_337 : decode cX11_init 337 = .ok (.bipush 6, 2) := by decide +kernel
theorem dX11_init_339 : decode cX11_init 339 = .ok (.newarray .int, 2) := by decide +kernel
theorem dX11_init_341 : decode cX11_init 341 = .ok (.putfield 136, 3) := by decide +kernel
theorem dX11_init_344 : decode cX11_init 344 = .ok (.aload_n 0, 1) := by decide +kernel
theorem dX11_init_345 : decode cX11_init 345 = .ok (.sipush 600, 3) := by decide +kernel
theorem dX11_init_348 : decode cX11_init 348 = .ok (.newarray .int, 2) := by decide +kernel
theorem dX11_init_350 : decode cX11_init 350 = .ok (.putfield 139, 3) := by decide +kernel
theorem dX11_init_353 : decode cX11_init 353 = .ok (.aload_n 0, 1) := by decide +kernel
theorem dX11_init_354 : decode cX11_init 354 = .ok (.bipush 6, 2) := by decide +kernel
theorem dX11_init_356 : decode cX11_init 356 = .ok (.newarray .int, 2) := by decide +kernel
theorem dX11_init_358 : decode cX11_init 358 = .ok (.putfield 142, 3) := by decide +kernel
theorem dX11_init_361 : decode cX11_init 361 = .ok (.aload_n 0, 1) := by decide +kernel
theorem dX11_init_362 : decode cX11_init 362 = .ok (.bipush 72, 2) := by decide +kernel
theorem dX11_init_364 : decode cX11_init 364 = .ok (.newarray .int, 2) := by decide +kernel
theorem dX11_init_366 : decode cX11_init 366 = .ok (.putfield 145, 3) := by decide +kernel
theorem dX11_init_369 : decode cX11_init 369 = .ok (.aload_n 0, 1) := by decide +kernel
theorem dX11_init_370 : decode cX11_init 370 = .ok (.bipush 100, 2) := by decide +kernel
theorem dX11_init_372 : decode cX11_init 372 = .ok (.newarray .int, 2) := by decide +kernel
theorem dX11_init_374 : decode cX11_init 374 = .ok (.putfield 148, 3) := by decide +kernel
theorem dX11_init_377 : decode cX11_init 377 = .ok (.aload_n 0, 1) := by decide +kernel
theorem dX11_init_378 : decode cX11_init 378 = .ok (.iconst 4, 1) := by decide +kernel
theorem dX11_init_379 : decode cX11_init 379 = .ok (.newarray .int, 2) := by decide +kernel
theorem dX11_init_381 : decode cX11_init 381 = .ok (.putfield 151, 3) := by decide +kernel
theorem dX11_init_384 : decode cX11_init 384 = .ok (.iconst 0, 1) := by decide +kernel
theorem dX11_init_385 : decode cX11_init 385 = .ok (.istore_n 1, 1) := by decide +kernel
theorem dX11_init_386 : decode cX11_init 386 = .ok (.iload_n 1, 1) := by decide +kernel
theorem dX11_init_387 : decode cX11_init 387 = .ok (.bipush 100, 2) := by decide +kernel
theorem dX11_init_389 : decode cX11_init 389 = .ok (.if_icmp .ge 16, 3) := by decide +kernel
theorem dX11_init_392 : decode cX11_init 392 = .ok (.aload_n 0, 1) := by decide +kernel
theorem dX11_init_393 : decode cX11_init 393 = .ok (.getfield 92, 3) := by decide +kernel
theorem dX11_init_396 : decode cX11_init 396 = .ok (.iload_n 1, 1) := by decide +kernel
theorem dX11_init_397 : decode cX11_init 397 = .ok (.iconst 1, 1) := by decide +kernel
theorem dX11_init_398 : decode cX11_init 398 = .ok (.iastore, 1) := by decide +kernel
theorem dX11_init_399 : decode cX11_init 399 = .ok (.iinc 1 1, 3) := by decide +kernel
theorem dX11_init_402 : decode cX11_init 402 = .ok (.goto (-16), 3) := by decide +kernel
theorem dX11_init_405 : decode cX11_init 405 = .ok (.return_, 1) := by decide +kernel
theorem dX11_thrown_0 : decode cX11_thrown 0 = .ok (.aload_n 0, 1) := by decide +kernel
theorem dX11_thrown_1 : decode cX11_thrown 1 = .ok (.getfield 154, 3) := by decide +kernel
theorem dX11_thrown_4 : decode cX11_thrown 4 = .ok (.ireturn, 1) := by decide +kernel
theorem dX11_fail_0 : decode cX11_fail 0 = .ok (.aload_n 0, 1) := by decide +kernel
theorem dX11_fail_1 : decode cX11_fail 1 = .ok (.iload_n 1, 1) := by decide +kernel
theorem dX11_fail_2 : decode cX11_fail 2 = .ok (.putfield 154, 3) := by decide +kernel
theorem dX11_fail_5 : decode cX11_fail 5 = .ok (.iconst 0, 1) := by decide +kernel
theorem dX11_fail_6 : decode cX11_fail 6 = .ok (.ireturn, 1) := by decide +kernel
theorem dX11_isIn_0 : decode cX11_isIn 0 = .ok (.iload_n 0, 1) := by decide +kernel
theorem dX11_isIn_1 : decode cX11_isIn 1 = .ok (.iload_n 1, 1) := by decide +kernel
theorem dX11_isIn_2 : decode cX11_isIn 2 = .ok (.if_icmp .lt 12, 3) := by decide +kernel
theorem dX11_isIn_5 : decode cX11_isIn 5 = .ok (.iload_n 0, 1) := by decide +kernel
theorem dX11_isIn_6 : decode cX11_isIn 6 = .ok (.iload_n 2, 1) := by decide +kernel
theorem dX11_isIn_7 : decode cX11_isIn 7 = .ok (.if_icmp .gt 7, 3) := by decide +kernel
theorem dX11_isIn_10 : decode cX11_isIn 10 = .ok (.iconst 1, 1) := by decide +kernel
theorem dX11_isIn_11 : decode cX11_isIn 11 = .ok (.goto 4, 3) := by decide +kernel
theorem dX11_isIn_14 : decode cX11_isIn 14 = .ok (.iconst 0, 1) := by decide +kernel
theorem dX11_isIn_15 : decode cX11_isIn 15 = .ok (.ireturn, 1) := by decide +kernel
theorem dX11_isWork_0 : decode cX11_isWork 0 = .ok (.iload_n 1, 1) := by decide +kernel
theorem dX11_isWork_1 : decode cX11_isWork 1 = .ok (.iconst 0, 1) := by decide +kernel
theorem dX11_isWork_2 : decode cX11_isWork 2 = .ok (.aload_n 0, 1) := by decide +kernel
theorem dX11_isWork_3 : decode cX11_isWork 3 = .ok (.getfield 157, 3) := by decide +kernel
theorem dX11_isWork_6 : decode cX11_isWork 6 = .ok (.iconst 1, 1) := by decide +kernel
theorem dX11_isWork_7 : decode cX11_isWork 7 = .ok (.isub, 1) := by decide +kernel
theorem dX11_isWork_8 : decode cX11_isWork 8 = .ok (.invokestatic 160, 3) := by decide +kernel
theorem dX11_isWork_11 : decode cX11_isWork 11 = .ok (.ireturn, 1) := by decide +kernel
theorem dX11_isWay_0 : decode cX11_isWay 0 = .ok (.aload_n 0, 1) := by decide +kernel
theorem dX11_isWay_1 : decode cX11_isWay 1 = .ok (.iload_n 1, 1) := by decide +kernel
theorem dX11_isWay_2 : decode cX11_isWay 2 = .ok (.invokevirtual 164, 3) := by decide +kernel
theorem dX11_isWay_5 : decode cX11_isWay 5 = .ok (.ifCond .eq 23, 3) := by decide +kernel
theorem dX11_isWay_8 : decode cX11_isWay 8 = .ok (.iload_n 2, 1) := by decide +kernel
theorem dX11_isWay_9 : decode cX11_isWay 9 = .ok (.iconst 0, 1) := by decide +kernel
theorem dX11_isWay_10 : decode cX11_isWay 10 = .ok (.aload_n 0, 1) := by decide +kernel
theorem dX11_isWay_11 : decode cX11_isWay 11 = .ok (.getfield 61, 3) := by decide +kernel
theorem dX11_isWay_14 : decode cX11_isWay 14 = .ok (.iload_n 1, 1) := by decide +kernel
theorem dX11_isWay_15 : decode cX11_isWay 15 = .ok (.iaload, 1) := by decide +kernel
theorem dX11_isWay_16 : decode cX11_isWay 16 = .ok (.iconst 1, 1) := by decide +kernel
theorem dX11_isWay_17 : decode cX11_isWay 17 = .ok (.isub, 1) := by decide +kernel
theorem dX11_isWay_18 : decode cX11_isWay 18 = .ok (.invokestatic 160, 3) := by decide +kernel
theorem dX11_isWay_21 : decode cX11_isWay 21 = .ok (.ifCond .eq 7, 3) := by decide +kernel
theorem dX11_isWay_24 : decode cX11_isWay 24 = .ok (.iconst 1, 1) := by decide +kernel
theorem dX11_isWay_25 : decode cX11_isWay 25 = .ok (.goto 4, 3) := by decide +kernel
theorem dX11_isWay_28 : decode cX11_isWay 28 = .ok (.iconst 0, 1) := by decide +kernel
theorem dX11_isWay_29 : decode cX11_isWay 29 = .ok (.ireturn, 1) := by decide +kernel
theorem dX11_feed_0 : decode cX11_feed 0 = .ok (.aload_n 0, 1) := by decide +kernel
theorem dX11_feed_1 : decode cX11_feed 1 = .ok (.iconst 0, 1) := by decide +kernel
theorem dX11_feed_2 : decode cX11_feed 2 = .ok (.putfield 154, 3) := by decide +kernel
theorem dX11_feed_5 : decode cX11_feed 5 = .ok (.aload_n 0, 1) := by decide +kernel
theorem dX11_feed_6 : decode cX11_feed 6 = .ok (.getfield 168, 3) := by decide +kernel
theorem dX11_feed_9 : decode cX11_feed 9 = .ok (.bipush 20, 2) := by decide +kernel
theorem dX11_feed_11 : decode cX11_feed 11 = .ok (.iadd, 1) := by decide +kernel
theorem dX11_feed_12 : decode cX11_feed 12 = .ok (.sipush 700, 3) := by decide +kernel
theorem dX11_feed_15 : decode cX11_feed 15 = .ok (.if_icmp .le 5, 3) := by decide +kernel
theorem dX11_feed_18 : decode cX11_feed 18 = .ok (.iconst (-1), 1) := by decide +kernel
theorem dX11_feed_19 : decode cX11_feed 19 = .ok (.ireturn, 1) := by decide +kernel
theorem dX11_feed_20 : decode cX11_feed 20 = .ok (.iconst 0, 1) := by decide +kernel
theorem dX11_feed_21 : decode cX11_feed 21 = .ok (.istore 6, 2) := by decide +kernel
theorem dX11_feed_23 : decode cX11_feed 23 = .ok (.iload 6, 2) := by decide +kernel
theorem dX11_feed_25 : decode cX11_feed 25 = .ok (.bipush 20, 2) := by decide +kernel
theorem dX11_feed_27 : decode cX11_feed 27 = .ok (.if_icmp .ge 93, 3) := by decide +kernel
theorem dX11_feed_30 : decode cX11_feed 30 = .ok (.iload 6, 2) := by decide +kernel
theorem dX11_feed_32 : decode cX11_feed 32 = .ok (.iconst 4, 1) := by decide +kernel
theorem dX11_feed_33 : decode cX11_feed 33 = .ok (.if_icmp .ge 7, 3) := by decide +kernel
theorem dX11_feed_36 : decode cX11_feed 36 = .ok (.iload_n 1, 1) := by decide +kernel
theorem dX11_feed_37 : decode cX11_feed 37 = .ok (.goto 39, 3) := by decide +kernel
theorem dX11_feed_40 : decode cX11_feed 40 = .ok (.iload 6, 2) := by decide +kernel
theorem dX11_feed_42 : decode cX11_feed 42 = .ok (.bipush 8, 2) := by decide +kernel
theorem dX11_feed_44 : decode cX11_feed 44 = .ok (.if_icmp .ge 7, 3) := by decide +kernel
theorem dX11_feed_47 : decode cX11_feed 47 = .ok (.iload_n 2, 1) := by decide +kernel
theorem dX11_feed_48 : decode cX11_feed 48 = .ok (.goto 28, 3) := by decide +kernel
theorem dX11_feed_51 : decode cX11_feed 51 = .ok (.iload 6, 2) := by decide +kernel
theorem dX11_feed_53 : decode cX11_feed 53 = .ok (.bipush 12, 2) := by decide +kernel
theorem dX11_feed_55 : decode cX11_feed 55 = .ok (.if_icmp .ge 7, 3) := by decide +kernel
theorem dX11_feed_58 : decode cX11_feed 58 = .ok (.iload_n 3, 1) := by decide +kernel
theorem dX11_feed_59 : decode cX11_feed 59 = .ok (.goto 17, 3) := by decide +kernel
theorem dX11_feed_62 : decode cX11_feed 62 = .ok (.iload 6, 2) := by decide +kernel
theorem dX11_feed_64 : decode cX11_feed 64 = .ok (.bipush 16, 2) := by decide +kernel
theorem dX11_feed_66 : decode cX11_feed 66 = .ok (.if_icmp .ge 8, 3) := by decide +kernel
theorem dX11_feed_69 : decode cX11_feed 69 = .ok (.iload 4, 2) := by decide +kernel
theorem dX11_feed_71 : decode cX11_feed 71 = .ok (.goto 5, 3) := by decide +kernel
theorem dX11_feed_74 : decode cX11_feed 74 = .ok (.iload 5, 2) := by decide +kernel
theorem dX11_feed_76 : decode cX11_feed 76 = .ok (.istore 7, 2) := by decide +kernel
theorem dX11_feed_78 : decode cX11_feed 78 = .ok (.aload_n 0, 1) := by decide +kernel
theorem dX11_feed_79 : decode cX11_feed 79 = .ok (.getfield 98, 3) := by decide +kernel
theorem dX11_feed_82 : decode cX11_feed 82 = .ok (.aload_n 0, 1) := by decide +kernel
theorem dX11_feed_83 : decode cX11_feed 83 = .ok (.getfield 168, 3) := by decide +kernel
theorem dX11_feed_86 : decode cX11_feed 86 = .ok (.iload 7, 2) := by decide +kernel
theorem dX11_feed_88 : decode cX11_feed 88 = .ok (.bipush 24, 2) := by decide +kernel
theorem dX11_feed_90 : decode cX11_feed 90 = .ok (.bipush 8, 2) := by decide +kernel
theorem dX11_feed_92 : decode cX11_feed 92 = .ok (.iload 6, 2) := by decide +kernel
theorem dX11_feed_94 : decode cX11_feed 94 = .ok (.iconst 4, 1) := by decide +kernel
theorem dX11_feed_95 : decode cX11_feed 95 = .ok (.irem, 1) := by decide +kernel
theorem dX11_feed_96 : decode cX11_feed 96 = .ok (.imul, 1) := by decide +kernel
theorem dX11_feed_97 : decode cX11_feed 97 = .ok (.isub, 1) := by decide +kernel
theorem dX11_feed_98 : decode cX11_feed 98 = .ok (.ishr, 1) := by decide +kernel
theorem dX11_feed_99 : decode cX11_feed 99 = .ok (.sipush 255, 3) := by decide +kernel
theorem dX11_feed_102 : decode cX11_feed 102 = .ok (.iand, 1) := by decide +kernel
theorem dX11_feed_103 : decode cX11_feed 103 = .ok (.iastore, 1) := by decide +kernel
theorem dX11_feed_104 : decode cX11_feed 104 = .ok (.aload_n 0, 1) := by decide +kernel
theorem dX11_feed_105 : decode cX11_feed 105 = .ok (.dup, 1) := by decide +kernel
theorem dX11_feed_106 : decode cX11_feed 106 = .ok (.getfield 168, 3) := by decide +kernel
theorem dX11_feed_109 : decode cX11_feed 109 = .ok (.iconst 1, 1) := by decide +kernel
theorem dX11_feed_110 : decode cX11_feed 110 = .ok (.iadd, 1) := by decide +kernel
theorem dX11_feed_111 : decode cX11_feed 111 = .ok (.putfield 168, 3) := by decide +kernel
theorem dX11_feed_114 : decode cX11_feed 114 = .ok (.iinc 6 1, 3) := by decide +kernel
theorem dX11_feed_117 : decode cX11_feed 117 = .ok (.goto (-94), 3) := by decide +kernel
theorem dX11_feed_120 : decode cX11_feed 120 = .ok (.aload_n 0, 1) := by decide +kernel
theorem dX11_feed_121 : decode cX11_feed 121 = .ok (.getfield 168, 3) := by decide +kernel
theorem dX11_feed_124 : decode cX11_feed 124 = .ok (.ireturn, 1) := by decide +kernel
theorem dX11_byteAt_0 : decode cX11_byteAt 0 = .ok (.iload_n 1, 1) := by decide +kernel
theorem dX11_byteAt_1 : decode cX11_byteAt 1 = .ok (.aload_n 0, 1) := by decide +kernel
theorem dX11_byteAt_2 : decode cX11_byteAt 2 = .ok (.getfield 171, 3) := by decide +kernel
theorem dX11_byteAt_5 : decode cX11_byteAt 5 = .ok (.if_icmp .ge 12, 3) := by decide +kernel
theorem dX11_byteAt_8 : decode cX11_byteAt 8 = .ok (.aload_n 0, 1) := by decide +kernel
theorem dX11_byteAt_9 : decode cX11_byteAt 9 = .ok (.getfield 98, 3) := by decide +kernel
theorem dX11_byteAt_12 : decode cX11_byteAt 12 = .ok (.iload_n 1, 1) := by decide +kernel
theorem dX11_byteAt_13 : decode cX11_byteAt 13 = .ok (.iaload, 1) := by decide +kernel
theorem dX11_byteAt_14 : decode cX11_byteAt 14 = .ok (.goto 4, 3) := by decide +kernel
theorem dX11_byteAt_17 : decode cX11_byteAt 17 = .ok (.iconst (-1), 1) := by decide +kernel
theorem dX11_byteAt_18 : decode cX11_byteAt 18 = .ok (.ireturn, 1) := by decide +kernel
theorem dX11_isLetter_0 : decode cX11_isLetter 0 = .ok (.iload_n 0, 1) := by decide +kernel
theorem dX11_isLetter_1 : decode cX11_isLetter 1 = .ok (.bipush 97, 2) := by decide +kernel
theorem dX11_isLetter_3 : decode cX11_isLetter 3 = .ok (.if_icmp .lt 13, 3) := by decide +kernel
theorem dX11_isLetter_6 : decode cX11_isLetter 6 = .ok (.iload_n 0, 1) := by decide +kernel
theorem dX11_isLetter_7 : decode cX11_isLetter 7 = .ok (.bipush 122, 2) := by decide +kernel
theorem dX11_isLetter_9 : decode cX11_isLetter 9 = .ok (.if_icmp .gt 7, 3) := by decide +kernel
theorem dX11_isLetter_12 : decode cX11_isLetter 12 = .ok (.iconst 1, 1) := by decide +kernel
theorem dX11_isLetter_13 : decode cX11_isLetter 13 = .ok (.goto 4, 3) := by decide +kernel
theorem dX11_isLetter_16 : decode cX11_isLetter 16 = .ok (.iconst 0, 1) := by decide +kernel
theorem dX11_isLetter_17 : decode cX11_isLetter 17 = .ok (.ireturn, 1) := by decide +kernel
theorem dX11_isDigit_0 : decode cX11_isDigit 0 = .ok (.iload_n 0, 1) := by decide +kernel
theorem dX11_isDigit_1 : decode cX11_isDigit 1 = .ok (.bipush 48, 2) := by decide +kernel
theorem dX11_isDigit_3 : decode cX11_isDigit 3 = .ok (.if_icmp .lt 13, 3) := by decide +kernel
theorem dX11_isDigit_6 : decode cX11_isDigit 6 = .ok (.iload_n 0, 1) := by decide +kernel
theorem dX11_isDigit_7 : decode cX11_isDigit 7 = .ok (.bipush 57, 2) := by decide +kernel
theorem dX11_isDigit_9 : decode cX11_isDigit 9 = .ok (.if_icmp .gt 7, 3) := by decide +kernel
theorem dX11_isDigit_12 : decode cX11_isDigit 12 = .ok (.iconst 1, 1) := by decide +kernel
theorem dX11_isDigit_13 : decode cX11_isDigit 13 = .ok (.goto 4, 3) := by decide +kernel
theorem dX11_isDigit_16 : decode cX11_isDigit 16 = .ok (.iconst 0, 1) := by decide +kernel
theorem dX11_isDigit_17 : decode cX11_isDigit 17 = .ok (.ireturn, 1) := by decide +kernel
theorem dX11_stepOn_0 : decode cX11_stepOn 0 = .ok (.aload_n 0, 1) := by decide +kernel
theorem dX11_stepOn_1 : decode cX11_stepOn 1 = .ok (.aload_n 0, 1) := by decide +kernel
theorem dX11_stepOn_2 : decode cX11_stepOn 2 = .ok (.getfield 174, 3) := by decide +kernel
theorem dX11_stepOn_5 : decode cX11_stepOn 5 = .ok (.invokevirtual 177, 3) := by decide +kernel
theorem dX11_stepOn_8 : decode cX11_stepOn 8 = .ok (.bipush 32, 2) := by decide +kernel
theorem dX11_stepOn_10 : decode cX11_stepOn 10 = .ok (.if_icmp .eq 16, 3) := by decide +kernel
theorem dX11_stepOn_13 : decode cX11_stepOn 13 = .ok (.aload_n 0, 1) := by decide +kernel
theorem dX11_stepOn_14 : decode cX11_stepOn 14 = .ok (.aload_n 0, 1) := by decide +kernel
theorem dX11_stepOn_15 : decode cX11_stepOn 15 = .ok (.getfield 174, 3) := by decide +kernel
theorem dX11_stepOn_18 : decode cX11_stepOn 18 = .ok (.invokevirtual 177, 3) := by decide +kernel
theorem dX11_stepOn_21 : decode cX11_stepOn 21 = .ok (.bipush 10, 2) := by decide +kernel
theorem dX11_stepOn_23 : decode cX11_stepOn 23 = .ok (.if_icmp .ne 16, 3) := by decide +kernel
theorem dX11_stepOn_26 : decode cX11_stepOn 26 = .ok (.aload_n 0, 1) := by decide +kernel
theorem dX11_stepOn_27 : decode cX11_stepOn 27 = .ok (.dup, 1) := by decide +kernel
theorem dX11_stepOn_28 : decode cX11_stepOn 28 = .ok (.getfield 174, 3) := by decide +kernel
theorem dX11_stepOn_31 : decode cX11_stepOn 31 = .ok (.iconst 1, 1) := by decide +kernel
theorem dX11_stepOn_32 : decode cX11_stepOn 32 = .ok (.iadd, 1) := by decide +kernel
theorem dX11_stepOn_33 : decode cX11_stepOn 33 = .ok (.putfield 174, 3) := by decide +kernel
theorem dX11_stepOn_36 : decode cX11_stepOn 36 = .ok (.goto (-36), 3) := by decide +kernel
theorem dX11_stepOn_39 : decode cX11_stepOn 39 = .ok (.aload_n 0, 1) := by decide +kernel
theorem dX11_stepOn_40 : decode cX11_stepOn 40 = .ok (.aload_n 0, 1) := by decide +kernel
theorem dX11_stepOn_41 : decode cX11_stepOn 41 = .ok (.getfield 174, 3) := by decide +kernel
theorem dX11_stepOn_44 : decode cX11_stepOn 44 = .ok (.putfield 181, 3) := by decide +kernel
theorem dX11_stepOn_47 : decode cX11_stepOn 47 = .ok (.aload_n 0, 1) := by decide +kernel
theorem dX11_stepOn_48 : decode cX11_stepOn 48 = .ok (.aload_n 0, 1) := by decide +kernel
theorem dX11_stepOn_49 : decode cX11_stepOn 49 = .ok (.getfield 174, 3) := by decide +kernel
theorem dX11_stepOn_52 : decode cX11_stepOn 52 = .ok (.invokevirtual 177, 3) := by decide +kernel
theorem dX11_stepOn_55 : decode cX11_stepOn 55 = .ok (.istore_n 1, 1) := by decide +kernel
theorem dX11_stepOn_56 : decode cX11_stepOn 56 = .ok (.iload_n 1, 1) := by decide +kernel
theorem dX11_stepOn_57 : decode cX11_stepOn 57 = .ok (.iconst (-1), 1) := by decide +kernel
theorem dX11_stepOn_58 : decode cX11_stepOn 58 = .ok (.if_icmp .ne 11, 3) := by decide +kernel
theorem dX11_stepOn_61 : decode cX11_stepOn 61 = .ok (.aload_n 0, 1) := by decide +kernel
theorem dX11_stepOn_62 : decode cX11_stepOn 62 = .ok (.iconst 0, 1) := by decide +kernel
theorem dX11_stepOn_63 : decode cX11_stepOn 63 = .ok (.putfield 184, 3) := by decide +kernel
theorem dX11_stepOn_66 : decode cX11_stepOn 66 = .ok (.goto 145, 3) := by decide +kernel
theorem dX11_stepOn_69 : decode cX11_stepOn 69 = .ok (.iload_n 1, 1) := by decide +kernel
theorem dX11_stepOn_70 : decode cX11_stepOn 70 = .ok (.invokestatic 187, 3) := by decide +kernel
theorem dX11_stepOn_73 : decode cX11_stepOn 73 = .ok (.ifCond .eq 38, 3) := by decide +kernel
theorem dX11_stepOn_76 : decode cX11_stepOn 76 = .ok (.aload_n 0, 1) := by decide +kernel
theorem dX11_stepOn_77 : decode cX11_stepOn 77 = .ok (.aload_n 0, 1) := by decide +kernel
theorem dX11_stepOn_78 : decode cX11_stepOn 78 = .ok (.getfield 174, 3) := by decide +kernel
theorem dX11_stepOn_81 : decode cX11_stepOn 81 = .ok (.invokevirtual 177, 3) := by decide +kernel
theorem dX11_stepOn_84 : decode cX11_stepOn 84 = .ok (.invokestatic 187, 3) := by decide +kernel
theorem dX11_stepOn_87 : decode cX11_stepOn 87 = .ok (.ifCond .eq 16, 3) := by decide +kernel
theorem dX11_stepOn_90 : decode cX11_stepOn 90 = .ok (.aload_n 0, 1) := by decide +kernel
theorem dX11_stepOn_91 : decode cX11_stepOn 91 = .ok (.dup, 1) := by decide +kernel
theorem dX11_stepOn_92 : decode cX11_stepOn 92 = .ok (.getfield 174, 3) := by decide +kernel
theorem dX11_stepOn_95 : decode cX11_stepOn 95 = .ok (.iconst 1, 1) := by decide +kernel
theorem dX11_stepOn_96 : decode cX11_stepOn 96 = .ok (.iadd, 1) := by decide +kernel
theorem dX11_stepOn_97 : decode cX11_stepOn 97 = .ok (.putfield 174, 3) := by decide +kernel
theorem dX11_stepOn_100 : decode cX11_stepOn 100 = .ok (.goto (-24), 3) := by decide +kernel
theorem dX11_stepOn_103 : decode cX11_stepOn 103 = .ok (.aload_n 0, 1) := by decide +kernel
theorem dX11_stepOn_104 : decode cX11_stepOn 104 = .ok (.iconst 1, 1) := by decide +kernel
theorem dX11_stepOn_105 : decode cX11_stepOn 105 = .ok (.putfield 184, 3) := by decide +kernel
theorem dX11_stepOn_108 : decode cX11_stepOn 108 = .ok (.goto 103, 3) := by decide +kernel
theorem dX11_stepOn_111 : decode cX11_stepOn 111 = .ok (.iload_n 1, 1) := by decide +kernel
theorem dX11_stepOn_112 : decode cX11_stepOn 112 = .ok (.invokestatic 190, 3) := by decide +kernel
theorem dX11_stepOn_115 : decode cX11_stepOn 115 = .ok (.ifCond .eq 71, 3) := by decide +kernel
theorem dX11_stepOn_118 : decode cX11_stepOn 118 = .ok (.aload_n 0, 1) := by decide +kernel
theorem dX11_stepOn_119 : decode cX11_stepOn 119 = .ok (.iconst 0, 1) := by decide +kernel
theorem dX11_stepOn_120 : decode cX11_stepOn 120 = .ok (.putfield 193, 3) := by decide +kernel
theorem dX11_stepOn_123 : decode cX11_stepOn 123 = .ok (.aload_n 0, 1) := by decide +kernel
theorem dX11_stepOn_124 : decode cX11_stepOn 124 = .ok (.aload_n 0, 1) := by decide +kernel
theorem dX11_stepOn_125 : decode cX11_stepOn 125 = .ok (.getfield 174, 3) := by decide +kernel
theorem dX11_stepOn_128 : decode cX11_stepOn 128 = .ok (.invokevirtual 177, 3) := by decide +kernel
theorem dX11_stepOn_131 : decode cX11_stepOn 131 = .ok (.invokestatic 190, 3) := by decide +kernel
theorem dX11_stepOn_134 : decode cX11_stepOn 134 = .ok (.ifCond .eq 44, 3) := by decide +kernel
theorem dX11_stepOn_137 : decode cX11_stepOn 137 = .ok (.aload_n 0, 1) := by decide +kernel
theorem dX11_stepOn_138 : decode cX11_stepOn 138 = .ok (.ldc 196, 2) := by decide +kernel
theorem dX11_stepOn_140 : decode cX11_stepOn 140 = .ok (.bipush 10, 2) := by decide +kernel
theorem dX11_stepOn_142 : decode cX11_stepOn 142 = .ok (.aload_n 0, 1) := by decide +kernel
theorem dX11_stepOn_143 : decode cX11_stepOn 143 = .ok (.getfield 193, 3) := by decide +kernel
theorem dX11_stepOn_146 : decode cX11_stepOn 146 = .ok (.imul, 1) := by decide +kernel
theorem dX11_stepOn_147 : decode cX11_stepOn 147 = .ok (.aload_n 0, 1) := by decide +kernel
theorem dX11_stepOn_148 : decode cX11_stepOn 148 = .ok (.aload_n 0, 1) := by decide +kernel
theorem dX11_stepOn_149 : decode cX11_stepOn 149 = .ok (.getfield 174, 3) := by decide +kernel
theorem dX11_stepOn_152 : decode cX11_stepOn 152 = .ok (.invokevirtual 177, 3) := by decide +kernel
theorem dX11_stepOn_155 : decode cX11_stepOn 155 = .ok (.iadd, 1) := by decide +kernel
theorem dX11_stepOn_156 : decode cX11_stepOn 156 = .ok (.bipush 48, 2) := by decide +kernel
theorem dX11_stepOn_158 : decode cX11_stepOn 158 = .ok (.isub, 1) := by decide +kernel
theorem dX11_stepOn_159 : decode cX11_stepOn 159 = .ok (.invokestatic 197, 3) := by decide +kernel
theorem dX11_stepOn_162 : decode cX11_stepOn 162 = .ok (.putfield 193, 3) := by decide +kernel
theorem dX11_stepOn_165 : decode cX11_stepOn 165 = .ok (.aload_n 0, 1) := by decide +kernel
theorem dX11_stepOn_166 : decode cX11_stepOn 166 = .ok (.dup, 1) := by decide +kernel
theorem dX11_stepOn_167 : decode cX11_stepOn 167 = .ok (.getfield 174, 3) := by decide +kernel
theorem dX11_stepOn_170 : decode cX11_stepOn 170 = .ok (.iconst 1, 1) := by decide +kernel
theorem dX11_stepOn_171 : decode cX11_stepOn 171 = .ok (.iadd, 1) := by decide +kernel
theorem dX11_stepOn_172 : decode cX11_stepOn 172 = .ok (.putfield 174, 3) := by decide +kernel
theorem dX11_stepOn_175 : decode cX11_stepOn 175 = .ok (.goto (-52), 3) := by decide +kernel
theorem dX11_stepOn_178 : decode cX11_stepOn 178 = .ok (.aload_n 0, 1) := by decide +kernel
theorem dX11_stepOn_179 : decode cX11_stepOn 179 = .ok (.iconst 2, 1) := by decide +kernel
theorem dX11_stepOn_180 : decode cX11_stepOn 180 = .ok (.putfield 184, 3) := by decide +kernel
theorem dX11_stepOn_183 : decode cX11_stepOn 183 = .ok (.goto 28, 3) := by decide +kernel
theorem dX11_stepOn_186 : decode cX11_stepOn 186 = .ok (.aload_n 0, 1) := by decide +kernel
theorem dX11_stepOn_187 : decode cX11_stepOn 187 = .ok (.dup, 1) := by decide +kernel
theorem dX11_stepOn_188 : decode cX11_stepOn 188 = .ok (.getfield 174, 3) := by decide +kernel
theorem dX11_stepOn_191 : decode cX11_stepOn 191 = .ok (.iconst 1, 1) := by decide +kernel
theorem dX11_stepOn_192 : decode cX11_stepOn 192 = .ok (.iadd, 1) := by decide +kernel
theorem dX11_stepOn_193 : decode cX11_stepOn 193 = .ok (.putfield 174, 3) := by decide +kernel
theorem dX11_stepOn_196 : decode cX11_stepOn 196 = .ok (.aload_n 0, 1) := by decide +kernel
theorem dX11_stepOn_197 : decode cX11_stepOn 197 = .ok (.iload_n 1, 1) := by decide +kernel
theorem dX11_stepOn_198 : decode cX11_stepOn 198 = .ok (.bipush 59, 2) := by decide +kernel
theorem dX11_stepOn_200 : decode cX11_stepOn 200 = .ok (.if_icmp .ne 7, 3) := by decide +kernel
theorem dX11_stepOn_203 : decode cX11_stepOn 203 = .ok (.iconst 3, 1) := by decide +kernel
theorem dX11_stepOn_204 : decode cX11_stepOn 204 = .ok (.goto 4, 3) := by decide +kernel
theorem dX11_stepOn_207 : decode cX11_stepOn 207 = .ok (.iconst 4, 1) := by decide +kernel
theorem dX11_stepOn_208 : decode cX11_stepOn 208 = .ok (.putfield 184, 3) := by decide +kernel
theorem dX11_stepOn_211 : decode cX11_stepOn 211 = .ok (.aload_n 0, 1) := by decide +kernel
theorem dX11_stepOn_212 : decode cX11_stepOn 212 = .ok (.aload_n 0, 1) := by decide +kernel
theorem dX11_stepOn_213 : decode cX11_stepOn 213 = .ok (.getfield 174, 3) := by decide +kernel
theorem dX11_stepOn_216 : decode cX11_stepOn 216 = .ok (.putfield 203, 3) := by decide +kernel
theorem dX11_stepOn_219 : decode cX11_stepOn 219 = .ok (.return_, 1) := by decide +kernel
theorem dX11_wrong_0 : decode cX11_wrong 0 = .ok (.aload_n 0, 1) := by decide +kernel
theorem dX11_wrong_1 : decode cX11_wrong 1 = .ok (.getfield 206, 3) := by decide +kernel
theorem dX11_wrong_4 : decode cX11_wrong 4 = .ok (.ifCond .eq 4, 3) := by decide +kernel
theorem dX11_wrong_7 : decode cX11_wrong 7 = .ok (.return_, 1) := by decide +kernel
theorem dX11_wrong_8 : decode cX11_wrong 8 = .ok (.aload_n 0, 1) := by decide +kernel
theorem dX11_wrong_9 : decode cX11_wrong 9 = .ok (.iload_n 1, 1) := by decide +kernel
theorem dX11_wrong_10 : decode cX11_wrong 10 = .ok (.putfield 206, 3) := by decide +kernel
theorem dX11_wrong_13 : decode cX11_wrong 13 = .ok (.aload_n 0, 1) := by decide +kernel
theorem dX11_wrong_14 : decode cX11_wrong 14 = .ok (.aload_n 0, 1) := by decide +kernel
theorem dX11_wrong_15 : decode cX11_wrong 15 = .ok (.getfield 181, 3) := by decide +kernel
theorem dX11_wrong_18 : decode cX11_wrong 18 = .ok (.putfield 209, 3) := by decide +kernel
theorem dX11_wrong_21 : decode cX11_wrong 21 = .ok (.return_, 1) := by decide +kernel
theorem dX11_is_0 : decode cX11_is 0 = .ok (.aload_n 0, 1) := by decide +kernel
theorem dX11_is_1 : decode cX11_is 1 = .ok (.getfield 206, 3) := by decide +kernel
theorem dX11_is_4 : decode cX11_is 4 = .ok (.ifCond .ne 31, 3) := by decide +kernel
theorem dX11_is_7 : decode cX11_is 7 = .ok (.aload_n 0, 1) := by decide +kernel
theorem dX11_is_8 : decode cX11_is 8 = .ok (.getfield 184, 3) := by decide +kernel
theorem dX11_is_11 : decode cX11_is 11 = .ok (.iconst 1, 1) := by decide +kernel
theorem dX11_is_12 : decode cX11_is 12 = .ok (.if_icmp .ne 23, 3) := by decide +kernel
theorem dX11_is_15 : decode cX11_is 15 = .ok (.aload_n 1, 1) := by decide +kernel
theorem dX11_is_16 : decode cX11_is 16 = .ok (.invokevirtual 212, 3) := by decide +kernel
theorem dX11_is_19 : decode cX11_is 19 = .ok (.aload_n 0, 1) := by decide +kernel
theorem dX11_is_20 : decode cX11_is 20 = .ok (.getfield 203, 3) := by decide +kernel
theorem dX11_is_23 : decode cX11_is 23 = .ok (.aload_n 0, 1) := by decide +kernel
theorem dX11_is_24 : decode cX11_is 24 = .ok (.getfield 181, 3) := by decide +kernel
theorem dX11_is_27 : decode cX11_is 27 = .ok (.isub, 1) := by decide +kernel
theorem dX11_is_28 : decode cX11_is 28 = .ok (.if_icmp .ne 7, 3) := by decide +kernel
theorem dX11_is_31 : decode cX11_is 31 = .ok (.iconst 1, 1) := by decide +kernel
theorem dX11_is_32 : decode cX11_is 32 = .ok (.goto 4, 3) := by decide +kernel
theorem dX11_is_35 : decode cX11_is 35 = .ok (.iconst 0, 1) := by decide +kernel
theorem dX11_is_36 : decode cX11_is 36 = .ok (.istore_n 2, 1) := by decide +kernel
theorem dX11_is_37 : decode cX11_is 37 = .ok (.iconst 0, 1) := by decide +kernel
theorem dX11_is_38 : decode cX11_is 38 = .ok (.istore_n 3, 1) := by decide +kernel
theorem dX11_is_39 : decode cX11_is 39 = .ok (.iload_n 2, 1) := by decide +kernel
theorem dX11_is_40 : decode cX11_is 40 = .ok (.ifCond .eq 42, 3) := by decide +kernel
theorem dX11_is_43 : decode cX11_is 43 = .ok (.iload_n 3, 1) := by decide +kernel
theorem dX11_is_44 : decode cX11_is 44 = .ok (.aload_n 1, 1) := by decide +kernel
theorem dX11_is_45 : decode cX11_is 45 = .ok (.invokevirtual 212, 3) := by decide +kernel
theorem dX11_is_48 : decode cX11_is 48 = .ok (.if_icmp .ge 34, 3) := by decide +kernel
theorem dX11_is_51 : decode cX11_is 51 = .ok (.aload_n 1, 1) := by decide +kernel
theorem dX11_is_52 : decode cX11_is 52 = .ok (.iload_n 3, 1) := by decide +kernel
theorem dX11_is_53 : decode cX11_is 53 = .ok (.invokevirtual 215, 3) := by decide +kernel
theorem dX11_is_56 : decode cX11_is 56 = .ok (.aload_n 0, 1) := by decide +kernel
theorem dX11_is_57 : decode cX11_is 57 = .ok (.getfield 98, 3) := by decide +kernel
theorem dX11_is_60 : decode cX11_is 60 = .ok (.aload_n 0, 1) := by decide +kernel
theorem dX11_is_61 : decode cX11_is 61 = .ok (.getfield 181, 3) := by decide +kernel
theorem dX11_is_64 : decode cX11_is 64 = .ok (.iload_n 3, 1) := by decide +kernel
theorem dX11_is_65 : decode cX11_is 65 = .ok (.iadd, 1) := by decide +kernel
theorem dX11_is_66 : decode cX11_is 66 = .ok (.iaload, 1) := by decide +kernel
theorem dX11_is_67 : decode cX11_is 67 = .ok (.if_icmp .ne 7, 3) := by decide +kernel
theorem dX11_is_70 : decode cX11_is 70 = .ok (.iconst 1, 1) := by decide +kernel
theorem dX11_is_71 : decode cX11_is 71 = .ok (.goto 4, 3) := by decide +kernel
theorem dX11_is_74 : decode cX11_is 74 = .ok (.iconst 0, 1) := by decide +kernel
theorem dX11_is_75 : decode cX11_is 75 = .ok (.istore_n 2, 1) := by decide +kernel
theorem dX11_is_76 : decode cX11_is 76 = .ok (.iinc 3 1, 3) := by decide +kernel
theorem dX11_is_79 : decode cX11_is 79 = .ok (.goto (-40), 3) := by decide +kernel
theorem dX11_is_82 : decode cX11_is 82 = .ok (.iload_n 2, 1) := by decide +kernel
theorem dX11_is_83 : decode cX11_is 83 = .ok (.ireturn, 1) := by decide +kernel
theorem dX11_which_0 : decode cX11_which 0 = .ok (.iconst 0, 1) := by decide +kernel
theorem dX11_which_1 : decode cX11_which 1 = .ok (.istore_n 2, 1) := by decide +kernel
theorem dX11_which_2 : decode cX11_which 2 = .ok (.iload_n 2, 1) := by decide +kernel
theorem dX11_which_3 : decode cX11_which 3 = .ok (.aload_n 1, 1) := by decide +kernel
theorem dX11_which_4 : decode cX11_which 4 = .ok (.arraylength, 1) := by decide +kernel
theorem dX11_which_5 : decode cX11_which 5 = .ok (.if_icmp .ge 21, 3) := by decide +kernel
theorem dX11_which_8 : decode cX11_which 8 = .ok (.aload_n 0, 1) := by decide +kernel
theorem dX11_which_9 : decode cX11_which 9 = .ok (.aload_n 1, 1) := by decide +kernel
theorem dX11_which_10 : decode cX11_which 10 = .ok (.iload_n 2, 1) := by decide +kernel
theorem dX11_which_11 : decode cX11_which 11 = .ok (.aaload, 1) := by decide +kernel
theorem dX11_which_12 : decode cX11_which 12 = .ok (.invokevirtual 219, 3) := by decide +kernel
theorem dX11_which_15 : decode cX11_which 15 = .ok (.ifCond .eq 5, 3) := by decide +kernel
theorem dX11_which_18 : decode cX11_which 18 = .ok (.iload_n 2, 1) := by decide +kernel
theorem dX11_which_19 : decode cX11_which 19 = .ok (.ireturn, 1) := by decide +kernel
theorem dX11_which_20 : decode cX11_which 20 = .ok (.iinc 2 1, 3) := by decide +kernel
theorem dX11_which_23 : decode cX11_which 23 = .ok (.goto (-21), 3) := by decide +kernel
theorem dX11_which_26 : decode cX11_which 26 = .ok (.iconst (-1), 1) := by decide +kernel
theorem dX11_which_27 : decode cX11_which 27 = .ok (.ireturn, 1) := by decide +kernel
theorem dX11_passes_0 : decode cX11_passes 0 = .ok (.aload_n 0, 1) := by decide +kernel
theorem dX11_passes_1 : decode cX11_passes 1 = .ok (.aload_n 1, 1) := by decide +kernel
theorem dX11_passes_2 : decode cX11_passes 2 = .ok (.invokevirtual 219, 3) := by decide +kernel
theorem dX11_passes_5 : decode cX11_passes 5 = .ok (.istore_n 2, 1) := by decide +kernel
theorem dX11_passes_6 : decode cX11_passes 6 = .ok (.iload_n 2, 1) := by decide +kernel
theorem dX11_passes_7 : decode cX11_passes 7 = .ok (.ifCond .eq 7, 3) := by decide +kernel
theorem dX11_passes_10 : decode cX11_passes 10 = .ok (.aload_n 0, 1) := by decide +kernel
theorem dX11_passes_11 : decode cX11_passes 11 = .ok (.invokevirtual 223, 3) := by decide +kernel
theorem dX11_passes_14 : decode cX11_passes 14 = .ok (.iload_n 2, 1) := by decide +kernel
theorem dX11_passes_15 : decode cX11_passes 15 = .ok (.ireturn, 1) := by decide +kernel
theorem dX11_readNumber_0 : decode cX11_readNumber 0 = .ok (.aload_n 0, 1) := by decide +kernel
theorem dX11_readNumber_1 : decode cX11_readNumber 1 = .ok (.getfield 206, 3) := by decide +kernel
theorem dX11_readNumber_4 : decode cX11_readNumber 4 = .ok (.ifCond .eq 5, 3) := by decide +kernel
theorem dX11_readNumber_7 : decode cX11_readNumber 7 = .ok (.iconst 0, 1) := by decide +kernel
theorem dX11_readNumber_8 : decode cX11_readNumber 8 = .ok (.ireturn, 1) := by decide +kernel
theorem dX11_readNumber_9 : decode cX11_readNumber 9 = .ok (.aload_n 0, 1) := by decide +kernel
theorem dX11_readNumber_10 : decode cX11_readNumber 10 = .ok (.getfield 184, 3) := by decide +kernel
theorem dX11_readNumber_13 : decode cX11_readNumber 13 = .ok (.iconst 2, 1) := by decide +kernel
theorem dX11_readNumber_14 : decode cX11_readNumber 14 = .ok (.if_icmp .eq 11, 3) := by decide +kernel
theorem dX11_readNumber_17 : decode cX11_readNumber 17 = .ok (.aload_n 0, 1) := by decide +kernel
theorem dX11_readNumber_18 : decode cX11_readNumber 18 = .ok (.iconst 1, 1) := by decide +kernel
theorem dX11_readNumber_19 : decode cX11_readNumber 19 = .ok (.invokevirtual 226, 3) := by decide +kernel
theorem dX11_readNumber_22 : decode cX11_readNumber 22 = .ok (.goto 37, 3) := by decide +kernel
theorem dX11_readNumber_25 : decode cX11_readNumber 25 = .ok (.aload_n 0, 1) := by decide +kernel
theorem dX11_readNumber_26 : decode cX11_readNumber 26 = .ok (.getfield 203, 3) := by decide +kernel
theorem dX11_readNumber_29 : decode cX11_readNumber 29 = .ok (.aload_n 0, 1) := by decide +kernel
theorem dX11_readNumber_30 : decode cX11_readNumber 30 = .ok (.getfield 181, 3) := by decide +kernel
theorem dX11_readNumber_33 : decode cX11_readNumber 33 = .ok (.isub, 1) := by decide +kernel
theorem dX11_readNumber_34 : decode cX11_readNumber 34 = .ok (.iconst 4, 1) := by decide +kernel
theorem dX11_readNumber_35 : decode cX11_readNumber 35 = .ok (.if_icmp .gt 19, 3) := by decide +kernel
theorem dX11_readNumber_38 : decode cX11_readNumber 38 = .ok (.aload_n 0, 1) := by decide +kernel
theorem dX11_readNumber_39 : decode cX11_readNumber 39 = .ok (.getfield 193, 3) := by decide +kernel
theorem dX11_readNumber_42 : decode cX11_readNumber 42 = .ok (.iload_n 1, 1) := by decide +kernel
theorem dX11_readNumber_43 : decode cX11_readNumber 43 = .ok (.if_icmp .lt 11, 3) := by decide +kernel
theorem dX11_readNumber_46 : decode cX11_readNumber 46 = .ok (.aload_n 0, 1) := by decide +kernel
theorem dX11_readNumber_47 : decode cX11_readNumber 47 = .ok (.getfield 193, 3) := by decide +kernel
theorem dX11_readNumber_50 : decode cX11_readNumber 50 = .ok (.iload_n 2, 1) := by decide +kernel
theorem dX11_readNumber_51 : decode cX11_readNumber 51 = .ok (.if_icmp .le 8, 3) := by decide +kernel
theorem dX11_readNumber_54 : decode cX11_readNumber 54 = .ok (.aload_n 0, 1) := by decide +kernel
theorem dX11_readNumber_55 : decode cX11_readNumber 55 = .ok (.iconst 2, 1) := by decide +kernel
theorem dX11_readNumber_56 : decode cX11_readNumber 56 = .ok (.invokevirtual 226, 3) := by decide +kernel
theorem dX11_readNumber_59 : decode cX11_readNumber 59 = .ok (.aload_n 0, 1) := by decide +kernel
theorem dX11_readNumber_60 : decode cX11_readNumber 60 = .ok (.getfield 193, 3) := by decide +kernel
theorem dX11_readNumber_63 : decode cX11_readNumber 63 = .ok (.istore_n 3, 1) := by decide +kernel
theorem dX11_readNumber_64 : decode cX11_readNumber 64 = .ok (.aload_n 0, 1) := by decide +kernel
theorem dX11_readNumber_65 : decode cX11_readNumber 65 = .ok (.getfield 206, 3) := by decide +kernel
theorem dX11_readNumber_68 : decode cX11_readNumber 68 = .ok (.ifCond .ne 7, 3) := by decide +kernel
theorem dX11_readNumber_71 : decode cX11_readNumber 71 = .ok (.aload_n 0, 1) := by decide +kernel
theorem dX11_readNumber_72 : decode cX11_readNumber 72 = .ok (.invokevirtual 223, 3) := by decide +kernel
theorem dX11_readNumber_75 : decode cX11_readNumber 75 = .ok (.iload_n 3, 1) := by decide +kernel
theorem dX11_readNumber_76 : decode cX11_readNumber 76 = .ok (.ireturn, 1) := by decide +kernel
theorem dX11_readOne_0 : decode cX11_readOne 0 = .ok (.aload_n 0, 1) := by decide +kernel
theorem dX11_readOne_1 : decode cX11_readOne 1 = .ok (.getfield 206, 3) := by decide +kernel
theorem dX11_readOne_4 : decode cX11_readOne 4 = .ok (.ifCond .eq 5, 3) := by decide +kernel
theorem dX11_readOne_7 : decode cX11_readOne 7 = .ok (.iconst 0, 1) := by decide +kernel
theorem dX11_readOne_8 : decode cX11_readOne 8 = .ok (.ireturn, 1) := by decide +kernel
theorem dX11_readOne_9 : decode cX11_readOne 9 = .ok (.aload_n 0, 1) := by decide +kernel
theorem dX11_readOne_10 : decode cX11_readOne 10 = .ok (.getfield 184, 3) := by decide +kernel
theorem dX11_readOne_13 : decode cX11_readOne 13 = .ok (.iconst 2, 1) := by decide +kernel
theorem dX11_readOne_14 : decode cX11_readOne 14 = .ok (.if_icmp .eq 11, 3) := by decide +kernel
theorem dX11_readOne_17 : decode cX11_readOne 17 = .ok (.aload_n 0, 1) := by decide +kernel
theorem dX11_readOne_18 : decode cX11_readOne 18 = .ok (.iconst 1, 1) := by decide +kernel
theorem dX11_readOne_19 : decode cX11_readOne 19 = .ok (.invokevirtual 226, 3) := by decide +kernel
theorem dX11_readOne_22 : decode cX11_readOne 22 = .ok (.goto 73, 3) := by decide +kernel
theorem dX11_readOne_25 : decode cX11_readOne 25 = .ok (.aload_n 0, 1) := by decide +kernel
theorem dX11_readOne_26 : decode cX11_readOne 26 = .ok (.getfield 203, 3) := by decide +kernel
theorem dX11_readOne_29 : decode cX11_readOne 29 = .ok (.aload_n 0, 1) := by decide +kernel
theorem dX11_readOne_30 : decode cX11_readOne 30 = .ok (.getfield 181, 3) := by decide +kernel
theorem dX11_readOne_33 : decode cX11_readOne 33 = .ok (.isub, 1) := by decide +kernel
theorem dX11_readOne_34 : decode cX11_readOne 34 = .ok (.iconst 4, 1) := by decide +kernel
theorem dX11_readOne_35 : decode cX11_readOne 35 = .ok (.if_icmp .le 11, 3) := by decide +kernel
theorem dX11_readOne_38 : decode cX11_readOne 38 = .ok (.aload_n 0, 1) := by decide +kernel
theorem dX11_readOne_39 : decode cX11_readOne 39 = .ok (.iconst 2, 1) := by decide +kernel
theorem dX11_readOne_40 : decode cX11_readOne 40 = .ok (.invokevirtual 226, 3) := by decide +kernel
theorem dX11_readOne_43 : decode cX11_readOne 43 = .ok (.goto 52, 3) := by decide +kernel
theorem dX11_readOne_46 : decode cX11_readOne 46 = .ok (.aload_n 0, 1) := by decide +kernel
theorem dX11_readOne_47 : decode cX11_readOne 47 = .ok (.getfield 193, 3) := by decide +kernel
theorem dX11_readOne_50 : decode cX11_readOne 50 = .ok (.iload_n 1, 1) := by decide +kernel
theorem dX11_readOne_51 : decode cX11_readOne 51 = .ok (.if_icmp .lt 11, 3) := by decide +kernel
theorem dX11_readOne_54 : decode cX11_readOne 54 = .ok (.aload_n 0, 1) := by decide +kernel
theorem dX11_readOne_55 : decode cX11_readOne 55 = .ok (.iconst 3, 1) := by decide +kernel
theorem dX11_readOne_56 : decode cX11_readOne 56 = .ok (.invokevirtual 226, 3) := by decide +kernel
theorem dX11_readOne_59 : decode cX11_readOne 59 = .ok (.goto 36, 3) := by decide +kernel
theorem dX11_readOne_62 : decode cX11_readOne 62 = .ok (.iload_n 2, 1) := by decide +kernel
theorem dX11_readOne_63 : decode cX11_readOne 63 = .ok (.iconst (-1), 1) := by decide +kernel
theorem dX11_readOne_64 : decode cX11_readOne 64 = .ok (.if_icmp .eq 31, 3) := by decide +kernel
theorem dX11_readOne_67 : decode cX11_readOne 67 = .ok (.iload_n 3, 1) := by decide +kernel
theorem dX11_readOne_68 : decode cX11_readOne 68 = .ok (.ifCond .eq 14, 3) := by decide +kernel
theorem dX11_readOne_71 : decode cX11_readOne 71 = .ok (.aload_n 0, 1) := by decide +kernel
theorem dX11_readOne_72 : decode cX11_readOne 72 = .ok (.getfield 193, 3) := by decide +kernel
theorem dX11_readOne_75 : decode cX11_readOne 75 = .ok (.iload_n 2, 1) := by decide +kernel
theorem dX11_readOne_76 : decode cX11_readOne 76 = .ok (.if_icmp .gt 19, 3) := by decide +kernel
theorem dX11_readOne_79 : decode cX11_readOne 79 = .ok (.goto 11, 3) := by decide +kernel
theorem dX11_readOne_82 : decode cX11_readOne 82 = .ok (.aload_n 0, 1) := by decide +kernel
theorem dX11_readOne_83 : decode cX11_readOne 83 = .ok (.getfield 193, 3) := by decide +kernel
theorem dX11_readOne_86 : decode cX11_readOne 86 = .ok (.iload_n 2, 1) := by decide +kernel
theorem dX11_readOne_87 : decode cX11_readOne 87 = .ok (.if_icmp .ne 8, 3) := by decide +kernel
theorem dX11_readOne_90 : decode cX11_readOne 90 = .ok (.aload_n 0, 1) := by decide +kernel
theorem dX11_readOne_91 : decode cX11_readOne 91 = .ok (.iconst 4, 1) := by decide +kernel
theorem dX11_readOne_92 : decode cX11_readOne 92 = .ok (.invokevirtual 226, 3) := by decide +kernel
theorem dX11_readOne_95 : decode cX11_readOne 95 = .ok (.aload_n 0, 1) := by decide +kernel
theorem dX11_readOne_96 : decode cX11_readOne 96 = .ok (.getfield 193, 3) := by decide +kernel
theorem dX11_readOne_99 : decode cX11_readOne 99 = .ok (.istore 4, 2) := by decide +kernel
theorem dX11_readOne_101 : decode cX11_readOne 101 = .ok (.aload_n 0, 1) := by decide +kernel
theorem dX11_readOne_102 : decode cX11_readOne 102 = .ok (.getfield 206, 3) := by decide +kernel
theorem dX11_readOne_105 : decode cX11_readOne 105 = .ok (.ifCond .ne 7, 3) := by decide +kernel
theorem dX11_readOne_108 : decode cX11_readOne 108 = .ok (.aload_n 0, 1) := by decide +kernel
theorem dX11_readOne_109 : decode cX11_readOne 109 = .ok (.invokevirtual 223, 3) := by decide +kernel
theorem dX11_readOne_112 : decode cX11_readOne 112 = .ok (.iload 4, 2) := by decide +kernel
theorem dX11_readOne_114 : decode cX11_readOne 114 = .ok (.ireturn, 1) := by decide +kernel
theorem dX11_semi_0 : decode cX11_semi 0 = .ok (.aload_n 0, 1) := by decide +kernel
theorem dX11_semi_1 : decode cX11_semi 1 = .ok (.getfield 206, 3) := by decide +kernel
theorem dX11_semi_4 : decode cX11_semi 4 = .ok (.ifCond .ne 16, 3) := by decide +kernel
theorem dX11_semi_7 : decode cX11_semi 7 = .ok (.aload_n 0, 1) := by decide +kernel
theorem dX11_semi_8 : decode cX11_semi 8 = .ok (.getfield 184, 3) := by decide +kernel
theorem dX11_semi_11 : decode cX11_semi 11 = .ok (.iconst 3, 1) := by decide +kernel
theorem dX11_semi_12 : decode cX11_semi 12 = .ok (.if_icmp .eq 8, 3) := by decide +kernel
theorem dX11_semi_15 : decode cX11_semi 15 = .ok (.aload_n 0, 1) := by decide +kernel
theorem dX11_semi_16 : decode cX11_semi 16 = .ok (.iconst 1, 1) := by decide +kernel
theorem dX11_semi_17 : decode cX11_semi 17 = .ok (.invokevirtual 226, 3) := by decide +kernel
theorem dX11_semi_20 : decode cX11_semi 20 = .ok (.aload_n 0, 1) := by decide +kernel
theorem dX11_semi_21 : decode cX11_semi 21 = .ok (.getfield 206, 3) := by decide +kernel
theorem dX11_semi_24 : decode cX11_semi 24 = .ok (.ifCond .ne 7, 3) := by decide +kernel
theorem dX11_semi_27 : decode cX11_semi 27 = .ok (.aload_n 0, 1) := by decide +kernel
theorem dX11_semi_28 : decode cX11_semi 28 = .ok (.invokevirtual 223, 3) := by decide +kernel
theorem dX11_semi_31 : decode cX11_semi 31 = .ok (.return_, 1) := by decide +kernel
theorem dX11_readSame_0 : decode cX11_readSame 0 = .ok (.aload_n 0, 1) := by decide +kernel
theorem dX11_readSame_1 : decode cX11_readSame 1 = .ok (.getfield 28, 3) := by decide +kernel
theorem dX11_readSame_4 : decode cX11_readSame 4 = .ok (.iload_n 1, 1) := by decide +kernel
theorem dX11_readSame_5 : decode cX11_readSame 5 = .ok (.iconst 0, 1) := by decide +kernel
theorem dX11_readSame_6 : decode cX11_readSame 6 = .ok (.iastore, 1) := by decide +kernel
theorem dX11_readSame_7 : decode cX11_readSame 7 = .ok (.aload_n 0, 1) := by decide +kernel
theorem dX11_readSame_8 : decode cX11_readSame 8 = .ok (.getfield 31, 3) := by decide +kernel
theorem dX11_readSame_11 : decode cX11_readSame 11 = .ok (.iload_n 1, 1) := by decide +kernel
theorem dX11_readSame_12 : decode cX11_readSame 12 = .ok (.iconst 0, 1) := by decide +kernel
theorem dX11_readSame_13 : decode cX11_readSame 13 = .ok (.iastore, 1) := by decide +kernel
theorem dX11_readSame_14 : decode cX11_readSame 14 = .ok (.aload_n 0, 1) := by decide +kernel
theorem dX11_readSame_15 : decode cX11_readSame 15 = .ok (.ldc 230, 2) := by decide +kernel
theorem dX11_readSame_17 : decode cX11_readSame 17 = .ok (.invokevirtual 232, 3) := by decide +kernel
theorem dX11_readSame_20 : decode cX11_readSame 20 = .ok (.ifCond .ne 4, 3) := by decide +kernel
theorem dX11_readSame_23 : decode cX11_readSame 23 = .ok (.return_, 1) := by decide +kernel
theorem dX11_readSame_24 : decode cX11_readSame 24 = .ok (.aload_n 0, 1) := by decide +kernel
theorem dX11_readSame_25 : decode cX11_readSame 25 = .ok (.ldc 235, 2) := by decide +kernel
theorem dX11_readSame_27 : decode cX11_readSame 27 = .ok (.invokevirtual 232, 3) := by decide +kernel
theorem dX11_readSame_30 : decode cX11_readSame 30 = .ok (.ifCond .eq 13, 3) := by decide +kernel
theorem dX11_readSame_33 : decode cX11_readSame 33 = .ok (.aload_n 0, 1) := by decide +kernel
theorem dX11_readSame_34 : decode cX11_readSame 34 = .ok (.getfield 28, 3) := by decide +kernel
theorem dX11_readSame_37 : decode cX11_readSame 37 = .ok (.iload_n 1, 1) := by decide +kernel
theorem dX11_readSame_38 : decode cX11_readSame 38 = .ok (.iconst 1, 1) := by decide +kernel
theorem dX11_readSame_39 : decode cX11_readSame 39 = .ok (.iastore, 1) := by decide +kernel
theorem dX11_readSame_40 : decode cX11_readSame 40 = .ok (.goto 55, 3) := by decide +kernel
theorem dX11_readSame_43 : decode cX11_readSame 43 = .ok (.aload_n 0, 1) := by decide +kernel
theorem dX11_readSame_44 : decode cX11_readSame 44 = .ok (.getfield 206, 3) := by decide +kernel
theorem dX11_readSame_47 : decode cX11_readSame 47 = .ok (.ifCond .ne 17, 3) := by decide +kernel
theorem dX11_readSame_50 : decode cX11_readSame 50 = .ok (.aload_n 0, 1) := by decide +kernel
theorem dX11_readSame_51 : decode cX11_readSame 51 = .ok (.ldc 237, 2) := by decide +kernel
theorem dX11_readSame_53 : decode cX11_readSame 53 = .ok (.invokevirtual 219, 3) := by decide +kernel
theorem dX11_readSame_56 : decode cX11_readSame 56 = .ok (.ifCond .ne 8, 3) := by decide +kernel
theorem dX11_readSame_59 : decode cX11_readSame 59 = .ok (.aload_n 0, 1) := by decide +kernel
theorem dX11_readSame_60 : decode cX11_readSame 60 = .ok (.iconst 1, 1) := by decide +kernel
theorem dX11_readSame_61 : decode cX11_readSame 61 = .ok (.invokevirtual 226, 3) := by decide +kernel
theorem dX11_readSame_64 : decode cX11_readSame 64 = .ok (.aload_n 0, 1) := by decide +kernel
theorem dX11_readSame_65 : decode cX11_readSame 65 = .ok (.getfield 206, 3) := by decide +kernel
theorem dX11_readSame_68 : decode cX11_readSame 68 = .ok (.ifCond .ne 7, 3) := by decide +kernel
theorem dX11_readSame_71 : decode cX11_readSame 71 = .ok (.aload_n 0, 1) := by decide +kernel
theorem dX11_readSame_72 : decode cX11_readSame 72 = .ok (.invokevirtual 223, 3) := by decide +kernel
theorem dX11_readSame_75 : decode cX11_readSame 75 = .ok (.aload_n 0, 1) := by decide +kernel
theorem dX11_readSame_76 : decode cX11_readSame 76 = .ok (.getfield 28, 3) := by decide +kernel
theorem dX11_readSame_79 : decode cX11_readSame 79 = .ok (.iload_n 1, 1) := by decide +kernel
theorem dX11_readSame_80 : decode cX11_readSame 80 = .ok (.iconst 2, 1) := by decide +kernel
theorem dX11_readSame_81 : decode cX11_readSame 81 = .ok (.iastore, 1) := by decide +kernel
theorem dX11_readSame_82 : decode cX11_readSame 82 = .ok (.aload_n 0, 1) := by decide +kernel
theorem dX11_readSame_83 : decode cX11_readSame 83 = .ok (.getfield 31, 3) := by decide +kernel
theorem dX11_readSame_86 : decode cX11_readSame 86 = .ok (.iload_n 1, 1) := by decide +kernel
theorem dX11_readSame_87 : decode cX11_readSame 87 = .ok (.aload_n 0, 1) := by decide +kernel
theorem dX11_readSame_88 : decode cX11_readSame 88 = .ok (.iconst 1, 1) := by decide +kernel
theorem dX11_readSame_89 : decode cX11_readSame 89 = .ok (.bipush 9, 2) := by decide +kernel
theorem dX11_readSame_91 : decode cX11_readSame 91 = .ok (.invokevirtual 238, 3) := by decide +kernel
theorem dX11_readSame_94 : decode cX11_readSame 94 = .ok (.iastore, 1) := by decide +kernel
theorem dX11_readSame_95 : decode cX11_readSame 95 = .ok (.return_, 1) := by decide +kernel
theorem dX11_readCost_0 : decode cX11_readCost 0 = .ok (.aload_n 0, 1) := by decide +kernel
theorem dX11_readCost_1 : decode cX11_readCost 1 = .ok (.getfield 49, 3) := by decide +kernel
theorem dX11_readCost_4 : decode cX11_readCost 4 = .ok (.bipush 20, 2) := by decide +kernel
theorem dX11_readCost_6 : decode cX11_readCost 6 = .ok (.iload_n 1, 1) := by decide +kernel
theorem dX11_readCost_7 : decode cX11_readCost 7 = .ok (.imul, 1) := by decide +kernel
theorem dX11_readCost_8 : decode cX11_readCost 8 = .ok (.aload_n 0, 1) := by decide +kernel
theorem dX11_readCost_9 : decode cX11_readCost 9 = .ok (.getfield 34, 3) := by decide +kernel
theorem dX11_readCost_12 : decode cX11_readCost 12 = .ok (.iload_n 1, 1) := by decide +kernel
theorem dX11_readCost_13 : decode cX11_readCost 13 = .ok (.iaload, 1) := by decide +kernel
theorem dX11_readCost_14 : decode cX11_readCost 14 = .ok (.iadd, 1) := by decide +kernel
theorem dX11_readCost_15 : decode cX11_readCost 15 = .ok (.aload_n 0, 1) := by decide +kernel
theorem dX11_readCost_16 : decode cX11_readCost 16 = .ok (.iconst 0, 1) := by decide +kernel
theorem dX11_readCost_17 : decode cX11_readCost 17 = .ok (.sipush 999, 3) := by decide +kernel
theorem dX11_readCost_20 : decode cX11_readCost 20 = .ok (.invokevirtual 238, 3) := by decide +kernel
theorem dX11_readCost_23 : decode cX11_readCost 23 = .ok (.iastore, 1) := by decide +kernel
theorem dX11_readCost_24 : decode cX11_readCost 24 = .ok (.aload_n 0, 1) := by decide +kernel
theorem dX11_readCost_25 : decode cX11_readCost 25 = .ok (.ldc 241, 2) := by decide +kernel
theorem dX11_readCost_27 : decode cX11_readCost 27 = .ok (.invokevirtual 232, 3) := by decide +kernel
theorem dX11_readCost_30 : decode cX11_readCost 30 = .ok (.ifCond .eq 20, 3) := by decide +kernel
theorem dX11_readCost_33 : decode cX11_readCost 33 = .ok (.aload_n 0, 1) := by decide +kernel
theorem dX11_readCost_34 : decode cX11_readCost 34 = .ok (.getfield 37, 3) := by decide +kernel
theorem dX11_readCost_37 : decode cX11_readCost 37 = .ok (.iload_n 1, 1) := by decide +kernel
theorem dX11_readCost_38 : decode cX11_readCost 38 = .ok (.dup2, 1) := by decide +kernel
theorem dX11_readCost_39 : decode cX11_readCost 39 = .ok (.iaload, 1) := by decide +kernel
theorem dX11_readCost_40 : decode cX11_readCost 40 = .ok (.iconst 1, 1) := by decide +kernel
theorem dX11_readCost_41 : decode cX11_readCost 41 = .ok (.aload_n 0, 1) := by decide +kernel
theorem dX11_readCost_42 : decode cX11_readCost 42 = .ok (.getfield 34, 3) := by decide +kernel
theorem dX11_readCost_45 : decode cX11_readCost 45 = .ok (.iload_n 1, 1) := by decide +kernel
theorem dX11_readCost_46 : decode cX11_readCost 46 = .ok (.iaload, 1) := by decide +kernel
theorem dX11_readCost_47 : decode cX11_readCost 47 = .ok (.ishl, 1) := by decide +kernel
theorem dX11_readCost_48 : decode cX11_readCost 48 = .ok (.ior, 1) := by decide +kernel
theorem dX11_readCost_49 : decode cX11_readCost 49 = .ok (.iastore, 1) := by decide +kernel
theorem dX11_readCost_50 : decode cX11_readCost 50 = .ok (.aload_n 0, 1) := by decide +kernel
theorem dX11_readCost_51 : decode cX11_readCost 51 = .ok (.getfield 34, 3) := by decide +kernel
theorem dX11_readCost_54 : decode cX11_readCost 54 = .ok (.iload_n 1, 1) := by decide +kernel
theorem dX11_readCost_55 : decode cX11_readCost 55 = .ok (.dup2, 1) := by decide +kernel
theorem dX11_readCost_56 : decode cX11_readCost 56 = .ok (.iaload, 1) := by decide +kernel
theorem dX11_readCost_57 : decode cX11_readCost 57 = .ok (.iconst 1, 1) := by decide +kernel
theorem dX11_readCost_58 : decode cX11_readCost 58 = .ok (.iadd, 1) := by decide +kernel
theorem dX11_readCost_59 : decode cX11_readCost 59 = .ok (.iastore, 1) := by decide +kernel
theorem dX11_readCost_60 : decode cX11_readCost 60 = .ok (.aload_n 0, 1) := by decide +kernel
theorem dX11_readCost_61 : decode cX11_readCost 61 = .ok (.invokevirtual 242, 3) := by decide +kernel
theorem dX11_readCost_64 : decode cX11_readCost 64 = .ok (.return_, 1) := by decide +kernel
theorem dX11_readRule_0 : decode cX11_readRule 0 = .ok (.aload_n 0, 1) := by decide +kernel
theorem dX11_readRule_1 : decode cX11_readRule 1 = .ok (.getfield 206, 3) := by decide +kernel
theorem dX11_readRule_4 : decode cX11_readRule 4 = .ok (.ifCond .ne 19, 3) := by decide +kernel
theorem dX11_readRule_7 : decode cX11_readRule 7 = .ok (.aload_n 0, 1) := by decide +kernel
theorem dX11_readRule_8 : decode cX11_readRule 8 = .ok (.getfield 40, 3) := by decide +kernel
theorem dX11_readRule_11 : decode cX11_readRule 11 = .ok (.iload_n 1, 1) := by decide +kernel
theorem dX11_readRule_12 : decode cX11_readRule 12 = .ok (.iaload, 1) := by decide +kernel
theorem dX11_readRule_13 : decode cX11_readRule 13 = .ok (.bipush 12, 2) := by decide +kernel
theorem dX11_readRule_15 : decode cX11_readRule 15 = .ok (.if_icmp .ne 8, 3) := by decide +kernel
theorem dX11_readRule_18 : decode cX11_readRule 18 = .ok (.aload_n 0, 1) := by decide +kernel
theorem dX11_readRule_19 : decode cX11_readRule 19 = .ok (.iconst 2, 1) := by decide +kernel
theorem dX11_readRule_20 : decode cX11_readRule 20 = .ok (.invokevirtual 226, 3) := by decide +kernel
theorem dX11_readRule_23 : decode cX11_readRule 23 = .ok (.aload_n 0, 1) := by decide +kernel
theorem dX11_readRule_24 : decode cX11_readRule 24 = .ok (.getfield 206, 3) := by decide +kernel
theorem dX11_readRule_27 : decode cX11_readRule 27 = .ok (.ifCond .eq 4, 3) := by decide +kernel
theorem dX11_readRule_30 : decode cX11_readRule 30 = .ok (.return_, 1) := by decide +kernel
theorem dX11_readRule_31 : decode cX11_readRule 31 = .ok (.aload_n 0, 1) := by decide +kernel
theorem dX11_readRule_32 : decode cX11_readRule 32 = .ok (.invokevirtual 223, 3) := by decide +kernel
theorem dX11_readRule_35 : decode cX11_readRule 35 = .ok (.bipush 12, 2) := by decide +kernel
theorem dX11_readRule_37 : decode cX11_readRule 37 = .ok (.iload_n 1, 1) := by decide +kernel
theorem dX11_readRule_38 : decode cX11_readRule 38 = .ok (.imul, 1) := by decide +kernel
theorem dX11_readRule_39 : decode cX11_readRule 39 = .ok (.aload_n 0, 1) := by decide +kernel
theorem dX11_readRule_40 : decode cX11_readRule 40 = .ok (.getfield 40, 3) := by decide +kernel
theorem dX11_readRule_43 : decode cX11_readRule 43 = .ok (.iload_n 1, 1) := by decide +kernel
theorem dX11_readRule_44 : decode cX11_readRule 44 = .ok (.iaload, 1) := by decide +kernel
theorem dX11_readRule_45 : decode cX11_readRule 45 = .ok (.iadd, 1) := by decide +kernel
theorem dX11_readRule_46 : decode cX11_readRule 46 = .ok (.istore_n 3, 1) := by decide +kernel
theorem dX11_readRule_47 : decode cX11_readRule 47 = .ok (.aload_n 0, 1) := by decide +kernel
theorem dX11_readRule_48 : decode cX11_readRule 48 = .ok (.getfield 52, 3) := by decide +kernel
theorem dX11_readRule_51 : decode cX11_readRule 51 = .ok (.iload_n 3, 1) := by decide +kernel
theorem dX11_readRule_52 : decode cX11_readRule 52 = .ok (.iload_n 2, 1) := by decide +kernel
theorem dX11_readRule_53 : decode cX11_readRule 53 = .ok (.iastore, 1) := by decide +kernel
theorem dX11_readRule_54 : decode cX11_readRule 54 = .ok (.aload_n 0, 1) := by decide +kernel
theorem dX11_readRule_55 : decode cX11_readRule 55 = .ok (.getfield 55, 3) := by decide +kernel
theorem dX11_readRule_58 : decode cX11_readRule 58 = .ok (.iload_n 3, 1) := by decide +kernel
theorem dX11_readRule_59 : decode cX11_readRule 59 = .ok (.aload_n 0, 1) := by decide +kernel
theorem dX11_readRule_60 : decode cX11_readRule 60 = .ok (.aload_n 0, 1) := by decide +kernel
theorem dX11_readRule_61 : decode cX11_readRule 61 = .ok (.getfield 34, 3) := by decide +kernel
theorem dX11_readRule_64 : decode cX11_readRule 64 = .ok (.iload_n 1, 1) := by decide +kernel
theorem dX11_readRule_65 : decode cX11_readRule 65 = .ok (.iaload, 1) := by decide +kernel
theorem dX11_readRule_66 : decode cX11_readRule 66 = .ok (.iconst (-1), 1) := by decide +kernel
theorem dX11_readRule_67 : decode cX11_readRule 67 = .ok (.iconst 0, 1) := by decide +kernel
theorem dX11_readRule_68 : decode cX11_readRule 68 = .ok (.invokevirtual 245, 3) := by decide +kernel
theorem dX11_readRule_71 : decode cX11_readRule 71 = .ok (.iastore, 1) := by decide +kernel
theorem dX11_readRule_72 : decode cX11_readRule 72 = .ok (.aload_n 0, 1) := by decide +kernel
theorem dX11_readRule_73 : decode cX11_readRule 73 = .ok (.getfield 58, 3) := by decide +kernel
theorem dX11_readRule_76 : decode cX11_readRule 76 = .ok (.iload_n 3, 1) := by decide +kernel
theorem dX11_readRule_77 : decode cX11_readRule 77 = .ok (.aload_n 0, 1) := by decide +kernel
theorem dX11_readRule_78 : decode cX11_readRule 78 = .ok (.aload_n 0, 1) := by decide +kernel
theorem dX11_readRule_79 : decode cX11_readRule 79 = .ok (.getfield 34, 3) := by decide +kernel
theorem dX11_readRule_82 : decode cX11_readRule 82 = .ok (.iload_n 1, 1) := by decide +kernel
theorem dX11_readRule_83 : decode cX11_readRule 83 = .ok (.iaload, 1) := by decide +kernel
theorem dX11_readRule_84 : decode cX11_readRule 84 = .ok (.aload_n 0, 1) := by decide +kernel
theorem dX11_readRule_85 : decode cX11_readRule 85 = .ok (.getfield 55, 3) := by decide +kernel
theorem dX11_readRule_88 : decode cX11_readRule 88 = .ok (.iload_n 3, 1) := by decide +kernel
theorem dX11_readRule_89 : decode cX11_readRule 89 = .ok (.iaload, 1) := by decide +kernel
theorem dX11_readRule_90 : decode cX11_readRule 90 = .ok (.iconst 0, 1) := by decide +kernel
theorem dX11_readRule_91 : decode cX11_readRule 91 = .ok (.invokevirtual 245, 3) := by decide +kernel
theorem dX11_readRule_94 : decode cX11_readRule 94 = .ok (.iastore, 1) := by decide +kernel
theorem dX11_readRule_95 : decode cX11_readRule 95 = .ok (.aload_n 0, 1) := by decide +kernel
theorem dX11_readRule_96 : decode cX11_readRule 96 = .ok (.getfield 40, 3) := by decide +kernel
theorem dX11_readRule_99 : decode cX11_readRule 99 = .ok (.iload_n 1, 1) := by decide +kernel
theorem dX11_readRule_100 : decode cX11_readRule 100 = .ok (.dup2, 1) := by decide +kernel
theorem dX11_readRule_101 : decode cX11_readRule 101 = .ok (.iaload, 1) := by decide +kernel
theorem dX11_readRule_102 : decode cX11_readRule 102 = .ok (.iconst 1, 1) := by decide +kernel
theorem dX11_readRule_103 : decode cX11_readRule 103 = .ok (.iadd, 1) := by decide +kernel
theorem dX11_readRule_104 : decode cX11_readRule 104 = .ok (.iastore, 1) := by decide +kernel
theorem dX11_readRule_105 : decode cX11_readRule 105 = .ok (.aload_n 0, 1) := by decide +kernel
theorem dX11_readRule_106 : decode cX11_readRule 106 = .ok (.invokevirtual 242, 3) := by decide +kernel
theorem dX11_readRule_109 : decode cX11_readRule 109 = .ok (.return_, 1) := by decide +kernel
theorem dX11_readStep_0 : decode cX11_readStep 0 = .ok (.aload_n 0, 1) := by decide +kernel
theorem dX11_readStep_1 : decode cX11_readStep 1 = .ok (.getfield 34, 3) := by decide +kernel
theorem dX11_readStep_4 : decode cX11_readStep 4 = .ok (.iload_n 1, 1) := by decide +kernel
theorem dX11_readStep_5 : decode cX11_readStep 5 = .ok (.iaload, 1) := by decide +kernel
theorem dX11_readStep_6 : decode cX11_readStep 6 = .ok (.bipush 20, 2) := by decide +kernel
theorem dX11_readStep_8 : decode cX11_readStep 8 = .ok (.if_icmp .ne 8, 3) := by decide +kernel
theorem dX11_readStep_11 : decode cX11_readStep 11 = .ok (.aload_n 0, 1) := by decide +kernel
theorem dX11_readStep_12 : decode cX11_readStep 12 = .ok (.iconst 2, 1) := by decide +kernel
theorem dX11_readStep_13 : decode cX11_readStep 13 = .ok (.invokevirtual 226, 3) := by decide +kernel
theorem dX11_readStep_16 : decode cX11_readStep 16 = .ok (.aload_n 0, 1) := by decide +kernel
theorem dX11_readStep_17 : decode cX11_readStep 17 = .ok (.getfield 206, 3) := by decide +kernel
theorem dX11_readStep_20 : decode cX11_readStep 20 = .ok (.ifCond .eq 4, 3) := by decide +kernel
theorem dX11_readStep_23 : decode cX11_readStep 23 = .ok (.return_, 1) := by decide +kernel
theorem dX11_readStep_24 : decode cX11_readStep 24 = .ok (.aload_n 0, 1) := by decide +kernel
theorem dX11_readStep_25 : decode cX11_readStep 25 = .ok (.invokevirtual 223, 3) := by decide +kernel
theorem dX11_readStep_28 : decode cX11_readStep 28 = .ok (.aload_n 0, 1) := by decide +kernel
theorem dX11_readStep_29 : decode cX11_readStep 29 = .ok (.getfield 43, 3) := by decide +kernel
theorem dX11_readStep_32 : decode cX11_readStep 32 = .ok (.bipush 20, 2) := by decide +kernel
theorem dX11_readStep_34 : decode cX11_readStep 34 = .ok (.iload_n 1, 1) := by decide +kernel
theorem dX11_readStep_35 : decode cX11_readStep 35 = .ok (.imul, 1) := by decide +kernel
theorem dX11_readStep_36 : decode cX11_readStep 36 = .ok (.aload_n 0, 1) := by decide +kernel
theorem dX11_readStep_37 : decode cX11_readStep 37 = .ok (.getfield 34, 3) := by decide +kernel
theorem dX11_readStep_40 : decode cX11_readStep 40 = .ok (.iload_n 1, 1) := by decide +kernel
theorem dX11_readStep_41 : decode cX11_readStep 41 = .ok (.iaload, 1) := by decide +kernel
theorem dX11_readStep_42 : decode cX11_readStep 42 = .ok (.iadd, 1) := by decide +kernel
theorem dX11_readStep_43 : decode cX11_readStep 43 = .ok (.aload_n 0, 1) := by decide +kernel
theorem dX11_readStep_44 : decode cX11_readStep 44 = .ok (.aload_n 0, 1) := by decide +kernel
theorem dX11_readStep_45 : decode cX11_readStep 45 = .ok (.getfield 25, 3) := by decide +kernel
theorem dX11_readStep_48 : decode cX11_readStep 48 = .ok (.iload_n 1, 1) := by decide +kernel
theorem dX11_readStep_49 : decode cX11_readStep 49 = .ok (.iaload, 1) := by decide +kernel
theorem dX11_readStep_50 : decode cX11_readStep 50 = .ok (.iconst (-1), 1) := by decide +kernel
theorem dX11_readStep_51 : decode cX11_readStep 51 = .ok (.iconst 0, 1) := by decide +kernel
theorem dX11_readStep_52 : decode cX11_readStep 52 = .ok (.invokevirtual 245, 3) := by decide +kernel
theorem dX11_readStep_55 : decode cX11_readStep 55 = .ok (.iastore, 1) := by decide +kernel
theorem dX11_readStep_56 : decode cX11_readStep 56 = .ok (.aload_n 0, 1) := by decide +kernel
theorem dX11_readStep_57 : decode cX11_readStep 57 = .ok (.getfield 46, 3) := by decide +kernel
theorem dX11_readStep_60 : decode cX11_readStep 60 = .ok (.bipush 20, 2) := by decide +kernel
theorem dX11_readStep_62 : decode cX11_readStep 62 = .ok (.iload_n 1, 1) := by decide +kernel
theorem dX11_readStep_63 : decode cX11_readStep 63 = .ok (.imul, 1) := by decide +kernel
theorem dX11_readStep_64 : decode cX11_readStep 64 = .ok (.aload_n 0, 1) := by decide +kernel
theorem dX11_readStep_65 : decode cX11_readStep 65 = .ok (.getfield 34, 3) := by decide +kernel
theorem dX11_readStep_68 : decode cX11_readStep 68 = .ok (.iload_n 1, 1) := by decide +kernel
theorem dX11_readStep_69 : decode cX11_readStep 69 = .ok (.iaload, 1) := by decide +kernel
theorem dX11_readStep_70 : decode cX11_readStep 70 = .ok (.iadd, 1) := by decide +kernel
theorem dX11_readStep_71 : decode cX11_readStep 71 = .ok (.aload_n 0, 1) := by decide +kernel
theorem dX11_readStep_72 : decode cX11_readStep 72 = .ok (.aload_n 0, 1) := by decide +kernel
theorem dX11_readStep_73 : decode cX11_readStep 73 = .ok (.getfield 25, 3) := by decide +kernel
theorem dX11_readStep_76 : decode cX11_readStep 76 = .ok (.iload_n 1, 1) := by decide +kernel
theorem dX11_readStep_77 : decode cX11_readStep 77 = .ok (.iaload, 1) := by decide +kernel
theorem dX11_readStep_78 : decode cX11_readStep 78 = .ok (.aload_n 0, 1) := by decide +kernel
theorem dX11_readStep_79 : decode cX11_readStep 79 = .ok (.getfield 43, 3) := by decide +kernel
theorem dX11_readStep_82 : decode cX11_readStep 82 = .ok (.bipush 20, 2) := by decide +kernel
theorem dX11_readStep_84 : decode cX11_readStep 84 = .ok (.iload_n 1, 1) := by decide +kernel
theorem dX11_readStep_85 : decode cX11_readStep 85 = .ok (.imul, 1) := by decide +kernel
theorem dX11_readStep_86 : decode cX11_readStep 86 = .ok (.aload_n 0, 1) := by decide +kernel
theorem dX11_readStep_87 : decode cX11_readStep 87 = .ok (.getfield 34, 3) := by decide +kernel
theorem dX11_readStep_90 : decode cX11_readStep 90 = .ok (.iload_n 1, 1) := by decide +kernel
theorem dX11_readStep_91 : decode cX11_readStep 91 = .ok (.iaload, 1) := by decide +kernel
theorem dX11_readStep_92 : decode cX11_readStep 92 = .ok (.iadd, 1) := by decide +kernel
theorem dX11_readStep_93 : decode cX11_readStep 93 = .ok (.iaload, 1) := by decide +kernel
theorem dX11_readStep_94 : decode cX11_readStep 94 = .ok (.iconst 1, 1) := by decide +kernel
theorem dX11_readStep_95 : decode cX11_readStep 95 = .ok (.invokevirtual 245, 3) := by decide +kernel
theorem dX11_readStep_98 : decode cX11_readStep 98 = .ok (.iastore, 1) := by decide +kernel
theorem dX11_readStep_99 : decode cX11_readStep 99 = .ok (.aload_n 0, 1) := by decide +kernel
theorem dX11_readStep_100 : decode cX11_readStep 100 = .ok (.iload_n 1, 1) := by decide +kernel
theorem dX11_readStep_101 : decode cX11_readStep 101 = .ok (.invokevirtual 249, 3) := by decide +kernel
theorem dX11_readStep_104 : decode cX11_readStep 104 = .ok (.return_, 1) := by decide +kernel
theorem dX11_readItem_0 : decode cX11_readItem 0 = .ok (.aload_n 0, 1) := by decide +kernel
theorem dX11_readItem_1 : decode cX11_readItem 1 = .ok (.getfield 34, 3) := by decide +kernel
theorem dX11_readItem_4 : decode cX11_readItem 4 = .ok (.iload_n 1, 1) := by decide +kernel
theorem dX11_readItem_5 : decode cX11_readItem 5 = .ok (.iaload, 1) := by decide +kernel
theorem dX11_readItem_6 : decode cX11_readItem 6 = .ok (.iload_n 2, 1) := by decide +kernel
theorem dX11_readItem_7 : decode cX11_readItem 7 = .ok (.if_icmp .ne 8, 3) := by decide +kernel
theorem dX11_readItem_10 : decode cX11_readItem 10 = .ok (.aload_n 0, 1) := by decide +kernel
theorem dX11_readItem_11 : decode cX11_readItem 11 = .ok (.iconst 2, 1) := by decide +kernel
theorem dX11_readItem_12 : decode cX11_readItem 12 = .ok (.invokevirtual 226, 3) := by decide +kernel
theorem dX11_readItem_15 : decode cX11_readItem 15 = .ok (.aload_n 0, 1) := by decide +kernel
theorem dX11_readItem_16 : decode cX11_readItem 16 = .ok (.getfield 206, 3) := by decide +kernel
theorem dX11_readItem_19 : decode cX11_readItem 19 = .ok (.ifCond .eq 4, 3) := by decide +kernel
theorem dX11_readItem_22 : decode cX11_readItem 22 = .ok (.return_, 1) := by decide +kernel
theorem dX11_readItem_23 : decode cX11_readItem 23 = .ok (.aload_n 0, 1) := by decide +kernel
theorem dX11_readItem_24 : decode cX11_readItem 24 = .ok (.invokevirtual 223, 3) := by decide +kernel
theorem dX11_readItem_27 : decode cX11_readItem 27 = .ok (.aload_n 0, 1) := by decide +kernel
theorem dX11_readItem_28 : decode cX11_readItem 28 = .ok (.iload_n 1, 1) := by decide +kernel
theorem dX11_readItem_29 : decode cX11_readItem 29 = .ok (.invokevirtual 249, 3) := by decide +kernel
theorem dX11_readItem_32 : decode cX11_readItem 32 = .ok (.return_, 1) := by decide +kernel
theorem dX11_readLines_0 : decode cX11_readLines 0 = .ok (.iconst 1, 1) := by decide +kernel
theorem dX11_readLines_1 : decode cX11_readLines 1 = .ok (.istore_n 2, 1) := by decide +kernel
theorem dX11_readLines_2 : decode cX11_readLines 2 = .ok (.iload_n 2, 1) := by decide +kernel
theorem dX11_readLines_3 : decode cX11_readLines 3 = .ok (.ifCond .eq 188, 3) := by decide +kernel
theorem dX11_readLines_6 : decode cX11_readLines 6 = .ok (.aload_n 0, 1) := by decide +kernel
theorem dX11_readLines_7 : decode cX11_readLines 7 = .ok (.getfield 206, 3) := by decide +kernel
theorem dX11_readLines_10 : decode cX11_readLines 10 = .ok (.ifCond .ne 181, 3) := by decide +kernel
theorem dX11_readLines_13 : decode cX11_readLines 13 = .ok (.aload_n 0, 1) := by decide +kernel
theorem dX11_readLines_14 : decode cX11_readLines 14 = .ok (.getfield 21, 3) := by decide +kernel
theorem dX11_readLines_17 : decode cX11_readLines 17 = .ok (.iload_n 1, 1) := by decide +kernel
theorem dX11_readLines_18 : decode cX11_readLines 18 = .ok (.iaload, 1) := by decide +kernel
theorem dX11_readLines_19 : decode cX11_readLines 19 = .ok (.ifCond .ne 20, 3) := by decide +kernel
theorem dX11_readLines_22 : decode cX11_readLines 22 = .ok (.aload_n 0, 1) := by decide +kernel
theorem dX11_readLines_23 : decode cX11_readLines 23 = .ok (.ldc 252, 2) := by decide +kernel
theorem dX11_readLines_25 : decode cX11_readLines 25 = .ok (.invokevirtual 219, 3) := by decide +kernel
theorem dX11_readLines_28 : decode cX11_readLines 28 = .ok (.ifCond .eq 11, 3) := by decide +kernel
theorem dX11_readLines_31 : decode cX11_readLines 31 = .ok (.aload_n 0, 1) := by decide +kernel
theorem dX11_readLines_32 : decode cX11_readLines 32 = .ok (.iload_n 1, 1) := by decide +kernel
theorem dX11_readLines_33 : decode cX11_readLines 33 = .ok (.invokevirtual 254, 3) := by decide +kernel
theorem dX11_readLines_36 : decode cX11_readLines 36 = .ok (.goto (-34), 3) := by decide +kernel
theorem dX11_readLines_39 : decode cX11_readLines 39 = .ok (.aload_n 0, 1) := by decide +kernel
theorem dX11_readLines_40 : decode cX11_readLines 40 = .ok (.getfield 21, 3) := by decide +kernel
theorem dX11_readLines_43 : decode cX11_readLines 43 = .ok (.iload_n 1, 1) := by decide +kernel
theorem dX11_readLines_44 : decode cX11_readLines 44 = .ok (.iaload, 1) := by decide +kernel
theorem dX11_readLines_45 : decode cX11_readLines 45 = .ok (.iconst 1, 1) := by decide +kernel
theorem dX11_readLines_46 : decode cX11_readLines 46 = .ok (.if_icmp .ne 23, 3) := by decide +kernel
theorem dX11_readLines_49 : decode cX11_readLines 49 = .ok (.aload_n 0, 1) := by decide +kernel
theorem dX11_readLines_50 : decode cX11_readLines 50 = .ok (.ldc_w 257, 3) := by decide +kernel
theorem dX11_readLines_53 : decode cX11_readLines 53 = .ok (.invokevirtual 219, 3) := by decide +kernel
theorem dX11_readLines_56 : decode cX11_readLines 56 = .ok (.ifCond .eq 13, 3) := by decide +kernel
theorem dX11_readLines_59 : decode cX11_readLines 59 = .ok (.aload_n 0, 1) := by decide +kernel
theorem dX11_readLines_60 : decode cX11_readLines 60 = .ok (.iload_n 1, 1) := by decide +kernel
theorem dX11_readLines_61 : decode cX11_readLines 61 = .ok (.bipush 12, 2) := by decide +kernel
theorem dX11_readLines_63 : decode cX11_readLines 63 = .ok (.invokevirtual 259, 3) := by decide +kernel
theorem dX11_readLines_66 : decode cX11_readLines 66 = .ok (.goto (-64), 3) := by decide +kernel
theorem dX11_readLines_69 : decode cX11_readLines 69 = .ok (.aload_n 0, 1) := by decide +kernel
theorem dX11_readLines_70 : decode cX11_readLines 70 = .ok (.getfield 21, 3) := by decide +kernel
theorem dX11_readLines_73 : decode cX11_readLines 73 = .ok (.iload_n 1, 1) := by decide +kernel
theorem dX11_readLines_74 : decode cX11_readLines 74 = .ok (.iaload, 1) := by decide +kernel
theorem dX11_readLines_75 : decode cX11_readLines 75 = .ok (.iconst 1, 1) := by decide +kernel
theorem dX11_readLines_76 : decode cX11_readLines 76 = .ok (.if_icmp .ne 22, 3) := by decide +kernel
theorem dX11_readLines_79 : decode cX11_readLines 79 = .ok (.aload_n 0, 1) := by decide +kernel
theorem dX11_readLines_80 : decode cX11_readLines 80 = .ok (.ldc_w 263, 3) := by decide +kernel
theorem dX11_readLines_83 : decode cX11_readLines 83 = .ok (.invokevirtual 219, 3) := by decide +kernel
theorem dX11_readLines_86 : decode cX11_readLines 86 = .ok (.ifCond .eq 12, 3) := by decide +kernel
theorem dX11_readLines_89 : decode cX11_readLines 89 = .ok (.aload_n 0, 1) := by decide +kernel
theorem dX11_readLines_90 : decode cX11_readLines 90 = .ok (.iload_n 1, 1) := by decide +kernel
theorem dX11_readLines_91 : decode cX11_readLines 91 = .ok (.iconst 0, 1) := by decide +kernel
theorem dX11_readLines_92 : decode cX11_readLines 92 = .ok (.invokevirtual 265, 3) := by decide +kernel
theorem dX11_readLines_95 : decode cX11_readLines 95 = .ok (.goto (-93), 3) := by decide +kernel
theorem dX11_readLines_98 : decode cX11_readLines 98 = .ok (.aload_n 0, 1) := by decide +kernel
theorem dX11_readLines_99 : decode cX11_readLines 99 = .ok (.getfield 21, 3) := by decide +kernel
theorem dX11_readLines_102 : decode cX11_readLines 102 = .ok (.iload_n 1, 1) := by decide +kernel
theorem dX11_readLines_103 : decode cX11_readLines 103 = .ok (.iaload, 1) := by decide +kernel
theorem dX11_readLines_104 : decode cX11_readLines 104 = .ok (.iconst 1, 1) := by decide +kernel
theorem dX11_readLines_105 : decode cX11_readLines 105 = .ok (.if_icmp .ne 22, 3) := by decide +kernel
theorem dX11_readLines_108 : decode cX11_readLines 108 = .ok (.aload_n 0, 1) := by decide +kernel
theorem dX11_readLines_109 : decode cX11_readLines 109 = .ok (.ldc_w 268, 3) := by decide +kernel
theorem dX11_readLines_112 : decode cX11_readLines 112 = .ok (.invokevirtual 219, 3) := by decide +kernel
theorem dX11_readLines_115 : decode cX11_readLines 115 = .ok (.ifCond .eq 12, 3) := by decide +kernel
theorem dX11_readLines_118 : decode cX11_readLines 118 = .ok (.aload_n 0, 1) := by decide +kernel
theorem dX11_readLines_119 : decode cX11_readLines 119 = .ok (.iload_n 1, 1) := by decide +kernel
theorem dX11_readLines_120 : decode cX11_readLines 120 = .ok (.iconst 1, 1) := by decide +kernel
theorem dX11_readLines_121 : decode cX11_readLines 121 = .ok (.invokevirtual 265, 3) := by decide +kernel
theorem dX11_readLines_124 : decode cX11_readLines 124 = .ok (.goto (-122), 3) := by decide +kernel
theorem dX11_readLines_127 : decode cX11_readLines 127 = .ok (.aload_n 0, 1) := by decide +kernel
theorem dX11_readLines_128 : decode cX11_readLines 128 = .ok (.getfield 21, 3) := by decide +kernel
theorem dX11_readLines_131 : decode cX11_readLines 131 = .ok (.iload_n 1, 1) := by decide +kernel
theorem dX11_readLines_132 : decode cX11_readLines 132 = .ok (.iaload, 1) := by decide +kernel
theorem dX11_readLines_133 : decode cX11_readLines 133 = .ok (.iconst 2, 1) := by decide +kernel
theorem dX11_readLines_134 : decode cX11_readLines 134 = .ok (.if_icmp .ne 23, 3) := by decide +kernel
theorem dX11_readLines_137 : decode cX11_readLines 137 = .ok (.aload_n 0, 1) := by decide +kernel
theorem dX11_readLines_138 : decode cX11_readLines 138 = .ok (.ldc_w 270, 3) := by decide +kernel
theorem dX11_readLines_141 : decode cX11_readLines 141 = .ok (.invokevirtual 219, 3) := by decide +kernel
theorem dX11_readLines_144 : decode cX11_readLines 144 = .ok (.ifCond .eq 13, 3) := by decide +kernel
theorem dX11_readLines_147 : decode cX11_readLines 147 = .ok (.aload_n 0, 1) := by decide +kernel
theorem dX11_readLines_148 : decode cX11_readLines 148 = .ok (.iload_n 1, 1) := by decide +kernel
theorem dX11_readLines_149 : decode cX11_readLines 149 = .ok (.bipush 6, 2) := by decide +kernel
theorem dX11_readLines_151 : decode cX11_readLines 151 = .ok (.invokevirtual 259, 3) := by decide +kernel
theorem dX11_readLines_154 : decode cX11_readLines 154 = .ok (.goto (-152), 3) := by decide +kernel
theorem dX11_readLines_157 : decode cX11_readLines 157 = .ok (.aload_n 0, 1) := by decide +kernel
theorem dX11_readLines_158 : decode cX11_readLines 158 = .ok (.getfield 21, 3) := by decide +kernel
theorem dX11_readLines_161 : decode cX11_readLines 161 = .ok (.iload_n 1, 1) := by decide +kernel
theorem dX11_readLines_162 : decode cX11_readLines 162 = .ok (.iaload, 1) := by decide +kernel
theorem dX11_readLines_163 : decode cX11_readLines 163 = .ok (.iconst 2, 1) := by decide +kernel
theorem dX11_readLines_164 : decode cX11_readLines 164 = .ok (.if_icmp .ne 22, 3) := by decide +kernel
theorem dX11_readLines_167 : decode cX11_readLines 167 = .ok (.aload_n 0, 1) := by decide +kernel
theorem dX11_readLines_168 : decode cX11_readLines 168 = .ok (.ldc_w 272, 3) := by decide +kernel
theorem dX11_readLines_171 : decode cX11_readLines 171 = .ok (.invokevirtual 219, 3) := by decide +kernel
theorem dX11_readLines_174 : decode cX11_readLines 174 = .ok (.ifCond .eq 12, 3) := by decide +kernel
theorem dX11_readLines_177 : decode cX11_readLines 177 = .ok (.aload_n 0, 1) := by decide +kernel
theorem dX11_readLines_178 : decode cX11_readLines 178 = .ok (.iload_n 1, 1) := by decide +kernel
theorem dX11_readLines_179 : decode cX11_readLines 179 = .ok (.iconst 0, 1) := by decide +kernel
theorem dX11_readLines_180 : decode cX11_readLines 180 = .ok (.invokevirtual 265, 3) := by decide +kernel
theorem dX11_readLines_183 : decode cX11_readLines 183 = .ok (.goto (-181), 3) := by decide +kernel
theorem dX11_readLines_186 : decode cX11_readLines 186 = .ok (.iconst 0, 1) := by decide +kernel
theorem dX11_readLines_187 : decode cX11_readLines 187 = .ok (.istore_n 2, 1) := by decide +kernel
theorem dX11_readLines_188 : decode cX11_readLines 188 = .ok (.goto (-186), 3) := by decide +kernel
theorem dX11_readLines_191 : decode cX11_readLines 191 = .ok (.return_, 1) := by decide +kernel
theorem dX11_readWork_0 : decode cX11_readWork 0 = .ok (.aload_n 0, 1) := by decide +kernel
theorem dX11_readWork_1 : decode cX11_readWork 1 = .ok (.aload_n 0, 1) := by decide +kernel
theorem dX11_readWork_2 : decode cX11_readWork 2 = .ok (.getfield 15, 3) := by decide +kernel
theorem dX11_readWork_5 : decode cX11_readWork 5 = .ok (.invokevirtual 274, 3) := by decide +kernel
theorem dX11_readWork_8 : decode cX11_readWork 8 = .ok (.istore_n 1, 1) := by decide +kernel
theorem dX11_readWork_9 : decode cX11_readWork 9 = .ok (.iload_n 1, 1) := by decide +kernel
theorem dX11_readWork_10 : decode cX11_readWork 10 = .ok (.iconst (-1), 1) := by decide +kernel
theorem dX11_readWork_11 : decode cX11_readWork 11 = .ok (.if_icmp .ne 11, 3) := by decide +kernel
theorem dX11_readWork_14 : decode cX11_readWork 14 = .ok (.aload_n 0, 1) := by decide +kernel
theorem dX11_readWork_15 : decode cX11_readWork 15 = .ok (.iconst 1, 1) := by decide +kernel
theorem dX11_readWork_16 : decode cX11_readWork 16 = .ok (.invokevirtual 226, 3) := by decide +kernel
theorem dX11_readWork_19 : decode cX11_readWork 19 = .ok (.goto 17, 3) := by decide +kernel
theorem dX11_readWork_22 : decode cX11_readWork 22 = .ok (.aload_n 0, 1) := by decide +kernel
theorem dX11_readWork_23 : decode cX11_readWork 23 = .ok (.getfield 278, 3) := by decide +kernel
theorem dX11_readWork_26 : decode cX11_readWork 26 = .ok (.bipush 6, 2) := by decide +kernel
theorem dX11_readWork_28 : decode cX11_readWork 28 = .ok (.if_icmp .ne 8, 3) := by decide +kernel
theorem dX11_readWork_31 : decode cX11_readWork 31 = .ok (.aload_n 0, 1) := by decide +kernel
theorem dX11_readWork_32 : decode cX11_readWork 32 = .ok (.iconst 2, 1) := by decide +kernel
theorem dX11_readWork_33 : decode cX11_readWork 33 = .ok (.invokevirtual 226, 3) := by decide +kernel
theorem dX11_readWork_36 : decode cX11_readWork 36 = .ok (.aload_n 0, 1) := by decide +kernel
theorem dX11_readWork_37 : decode cX11_readWork 37 = .ok (.getfield 206, 3) := by decide +kernel
theorem dX11_readWork_40 : decode cX11_readWork 40 = .ok (.ifCond .eq 4, 3) := by decide +kernel
theorem dX11_readWork_43 : decode cX11_readWork 43 = .ok (.return_, 1) := by decide +kernel
theorem dX11_readWork_44 : decode cX11_readWork 44 = .ok (.aload_n 0, 1) := by decide +kernel
theorem dX11_readWork_45 : decode cX11_readWork 45 = .ok (.invokevirtual 223, 3) := by decide +kernel
theorem dX11_readWork_48 : decode cX11_readWork 48 = .ok (.bipush 6, 2) := by decide +kernel
theorem dX11_readWork_50 : decode cX11_readWork 50 = .ok (.aload_n 0, 1) := by decide +kernel
theorem dX11_readWork_51 : decode cX11_readWork 51 = .ok (.getfield 278, 3) := by decide +kernel
theorem dX11_readWork_54 : decode cX11_readWork 54 = .ok (.iadd, 1) := by decide +kernel
theorem dX11_readWork_55 : decode cX11_readWork 55 = .ok (.istore_n 2, 1) := by decide +kernel
theorem dX11_readWork_56 : decode cX11_readWork 56 = .ok (.aload_n 0, 1) := by decide +kernel
theorem dX11_readWork_57 : decode cX11_readWork 57 = .ok (.getfield 21, 3) := by decide +kernel
theorem dX11_readWork_60 : decode cX11_readWork 60 = .ok (.iload_n 2, 1) := by decide +kernel
theorem dX11_readWork_61 : decode cX11_readWork 61 = .ok (.iload_n 1, 1) := by decide +kernel
theorem dX11_readWork_62 : decode cX11_readWork 62 = .ok (.iastore, 1) := by decide +kernel
theorem dX11_readWork_63 : decode cX11_readWork 63 = .ok (.aload_n 0, 1) := by decide +kernel
theorem dX11_readWork_64 : decode cX11_readWork 64 = .ok (.getfield 34, 3) := by decide +kernel
theorem dX11_readWork_67 : decode cX11_readWork 67 = .ok (.iload_n 2, 1) := by decide +kernel
theorem dX11_readWork_68 : decode cX11_readWork 68 = .ok (.iconst 0, 1) := by decide +kernel
theorem dX11_readWork_69 : decode cX11_readWork 69 = .ok (.iastore, 1) := by decide +kernel
theorem dX11_readWork_70 : decode cX11_readWork 70 = .ok (.aload_n 0, 1) := by decide +kernel
theorem dX11_readWork_71 : decode cX11_readWork 71 = .ok (.getfield 37, 3) := by decide +kernel
theorem dX11_readWork_74 : decode cX11_readWork 74 = .ok (.iload_n 2, 1) := by decide +kernel
theorem dX11_readWork_75 : decode cX11_readWork 75 = .ok (.iconst 0, 1) := by decide +kernel
theorem dX11_readWork_76 : decode cX11_readWork 76 = .ok (.iastore, 1) := by decide +kernel
theorem dX11_readWork_77 : decode cX11_readWork 77 = .ok (.aload_n 0, 1) := by decide +kernel
theorem dX11_readWork_78 : decode cX11_readWork 78 = .ok (.getfield 40, 3) := by decide +kernel
theorem dX11_readWork_81 : decode cX11_readWork 81 = .ok (.iload_n 2, 1) := by decide +kernel
theorem dX11_readWork_82 : decode cX11_readWork 82 = .ok (.iconst 0, 1) := by decide +kernel
theorem dX11_readWork_83 : decode cX11_readWork 83 = .ok (.iastore, 1) := by decide +kernel
theorem dX11_readWork_84 : decode cX11_readWork 84 = .ok (.aload_n 0, 1) := by decide +kernel
theorem dX11_readWork_85 : decode cX11_readWork 85 = .ok (.getfield 25, 3) := by decide +kernel
theorem dX11_readWork_88 : decode cX11_readWork 88 = .ok (.iload_n 2, 1) := by decide +kernel
theorem dX11_readWork_89 : decode cX11_readWork 89 = .ok (.iload_n 1, 1) := by decide +kernel
theorem dX11_readWork_90 : decode cX11_readWork 90 = .ok (.iconst 2, 1) := by decide +kernel
theorem dX11_readWork_91 : decode cX11_readWork 91 = .ok (.if_icmp .ne 7, 3) := by decide +kernel
theorem dX11_readWork_94 : decode cX11_readWork 94 = .ok (.iconst 0, 1) := by decide +kernel
theorem dX11_readWork_95 : decode cX11_readWork 95 = .ok (.goto 18, 3) := by decide +kernel
theorem dX11_readWork_98 : decode cX11_readWork 98 = .ok (.aload_n 0, 1) := by decide +kernel
theorem dX11_readWork_99 : decode cX11_readWork 99 = .ok (.iload_n 1, 1) := by decide +kernel
theorem dX11_readWork_100 : decode cX11_readWork 100 = .ok (.ifCond .ne 7, 3) := by decide +kernel
theorem dX11_readWork_103 : decode cX11_readWork 103 = .ok (.iconst 2, 1) := by decide +kernel
theorem dX11_readWork_104 : decode cX11_readWork 104 = .ok (.goto 4, 3) := by decide +kernel
theorem dX11_readWork_107 : decode cX11_readWork 107 = .ok (.iconst 0, 1) := by decide +kernel
theorem dX11_readWork_108 : decode cX11_readWork 108 = .ok (.bipush 12, 2) := by decide +kernel
theorem dX11_readWork_110 : decode cX11_readWork 110 = .ok (.invokevirtual 238, 3) := by decide +kernel
theorem dX11_readWork_113 : decode cX11_readWork 113 = .ok (.iastore, 1) := by decide +kernel
theorem dX11_readWork_114 : decode cX11_readWork 114 = .ok (.aload_n 0, 1) := by decide +kernel
theorem dX11_readWork_115 : decode cX11_readWork 115 = .ok (.iload_n 2, 1) := by decide +kernel
theorem dX11_readWork_116 : decode cX11_readWork 116 = .ok (.invokevirtual 281, 3) := by decide +kernel
theorem dX11_readWork_119 : decode cX11_readWork 119 = .ok (.aload_n 0, 1) := by decide +kernel
theorem dX11_readWork_120 : decode cX11_readWork 120 = .ok (.invokevirtual 242, 3) := by decide +kernel
theorem dX11_readWork_123 : decode cX11_readWork 123 = .ok (.aload_n 0, 1) := by decide +kernel
theorem dX11_readWork_124 : decode cX11_readWork 124 = .ok (.iload_n 2, 1) := by decide +kernel
theorem dX11_readWork_125 : decode cX11_readWork 125 = .ok (.invokevirtual 284, 3) := by decide +kernel
theorem dX11_readWork_128 : decode cX11_readWork 128 = .ok (.aload_n 0, 1) := by decide +kernel
theorem dX11_readWork_129 : decode cX11_readWork 129 = .ok (.dup, 1) := by decide +kernel
