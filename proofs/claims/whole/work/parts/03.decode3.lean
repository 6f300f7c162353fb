theorem dX7_takesLaw_33 : decode cX7_takesLaw 33 = .ok (.aload_n 0, 1) := by decide +kernel
theorem dX7_takesLaw_34 : decode cX7_takesLaw 34 = .ok (.bipush 44, 2) := by decide +kernel
theorem dX7_takesLaw_36 : decode cX7_takesLaw 36 = .ok (.invokevirtual 97, 3) := by decide +kernel
theorem dX7_takesLaw_39 : decode cX7_takesLaw 39 = .ok (.ifCond .eq 12, 3) := by decide +kernel
theorem dX7_takesLaw_42 : decode cX7_takesLaw 42 = .ok (.aload_n 0, 1) := by decide +kernel
theorem dX7_takesLaw_43 : decode cX7_takesLaw 43 = .ok (.iconst 0, 1) := by decide +kernel
theorem dX7_takesLaw_44 : decode cX7_takesLaw 44 = .ok (.iconst 3, 1) := by decide +kernel
theorem dX7_takesLaw_45 : decode cX7_takesLaw 45 = .ok (.invokevirtual 100, 3) := by decide +kernel
theorem dX7_takesLaw_48 : decode cX7_takesLaw 48 = .ok (.ifCond .ne 5, 3) := by decide +kernel
theorem dX7_takesLaw_51 : decode cX7_takesLaw 51 = .ok (.iconst 0, 1) := by decide +kernel
theorem dX7_takesLaw_52 : decode cX7_takesLaw 52 = .ok (.ireturn, 1) := by decide +kernel
theorem dX7_takesLaw_53 : decode cX7_takesLaw 53 = .ok (.aload_n 0, 1) := by decide +kernel
theorem dX7_takesLaw_54 : decode cX7_takesLaw 54 = .ok (.getfield 7, 3) := by decide +kernel
theorem dX7_takesLaw_57 : decode cX7_takesLaw 57 = .ok (.sipush 175, 3) := by decide +kernel
theorem dX7_takesLaw_60 : decode cX7_takesLaw 60 = .ok (.aload_n 0, 1) := by decide +kernel
theorem dX7_takesLaw_61 : decode cX7_takesLaw 61 = .ok (.getfield 90, 3) := by decide +kernel
theorem dX7_takesLaw_64 : decode cX7_takesLaw 64 = .ok (.iastore, 1) := by decide +kernel
theorem dX7_takesLaw_65 : decode cX7_takesLaw 65 = .ok (.aload_n 0, 1) := by decide +kernel
theorem dX7_takesLaw_66 : decode cX7_takesLaw 66 = .ok (.bipush 59, 2) := by decide +kernel
theorem dX7_takesLaw_68 : decode cX7_takesLaw 68 = .ok (.invokevirtual 97, 3) := by decide +kernel
theorem dX7_takesLaw_71 : decode cX7_takesLaw 71 = .ok (.ireturn, 1) := by decide +kernel
theorem dX7_takesColumn_0 : decode cX7_takesColumn 0 = .ok (.aload_n 0, 1) := by decide +kernel
theorem dX7_takesColumn_1 : decode cX7_takesColumn 1 = .ok (.invokevirtual 82, 3) := by decide +kernel
theorem dX7_takesColumn_4 : decode cX7_takesColumn 4 = .ok (.bipush 112, 2) := by decide +kernel
theorem dX7_takesColumn_6 : decode cX7_takesColumn 6 = .ok (.if_icmp .eq 13, 3) := by decide +kernel
theorem dX7_takesColumn_9 : decode cX7_takesColumn 9 = .ok (.aload_n 0, 1) := by decide +kernel
theorem dX7_takesColumn_10 : decode cX7_takesColumn 10 = .ok (.iconst 1, 1) := by decide +kernel
theorem dX7_takesColumn_11 : decode cX7_takesColumn 11 = .ok (.aload_n 0, 1) := by decide +kernel
theorem dX7_takesColumn_12 : decode cX7_takesColumn 12 = .ok (.getfield 73, 3) := by decide +kernel
theorem dX7_takesColumn_15 : decode cX7_takesColumn 15 = .ok (.invokevirtual 86, 3) := by decide +kernel
theorem dX7_takesColumn_18 : decode cX7_takesColumn 18 = .ok (.ireturn, 1) := by decide +kernel
theorem dX7_takesColumn_19 : decode cX7_takesColumn 19 = .ok (.aload_n 0, 1) := by decide +kernel
theorem dX7_takesColumn_20 : decode cX7_takesColumn 20 = .ok (.getfield 7, 3) := by decide +kernel
theorem dX7_takesColumn_23 : decode cX7_takesColumn 23 = .ok (.sipush 173, 3) := by decide +kernel
theorem dX7_takesColumn_26 : decode cX7_takesColumn 26 = .ok (.iaload, 1) := by decide +kernel
theorem dX7_takesColumn_27 : decode cX7_takesColumn 27 = .ok (.bipush 12, 2) := by decide +kernel
theorem dX7_takesColumn_29 : decode cX7_takesColumn 29 = .ok (.if_icmp .ne 13, 3) := by decide +kernel
theorem dX7_takesColumn_32 : decode cX7_takesColumn 32 = .ok (.aload_n 0, 1) := by decide +kernel
theorem dX7_takesColumn_33 : decode cX7_takesColumn 33 = .ok (.iconst 3, 1) := by decide +kernel
theorem dX7_takesColumn_34 : decode cX7_takesColumn 34 = .ok (.aload_n 0, 1) := by decide +kernel
theorem dX7_takesColumn_35 : decode cX7_takesColumn 35 = .ok (.getfield 73, 3) := by decide +kernel
theorem dX7_takesColumn_38 : decode cX7_takesColumn 38 = .ok (.invokevirtual 86, 3) := by decide +kernel
theorem dX7_takesColumn_41 : decode cX7_takesColumn 41 = .ok (.ireturn, 1) := by decide +kernel
theorem dX7_takesColumn_42 : decode cX7_takesColumn 42 = .ok (.aload_n 0, 1) := by decide +kernel
theorem dX7_takesColumn_43 : decode cX7_takesColumn 43 = .ok (.dup, 1) := by decide +kernel
theorem dX7_takesColumn_44 : decode cX7_takesColumn 44 = .ok (.getfield 73, 3) := by decide +kernel
theorem dX7_takesColumn_47 : decode cX7_takesColumn 47 = .ok (.iconst 1, 1) := by decide +kernel
theorem dX7_takesColumn_48 : decode cX7_takesColumn 48 = .ok (.iadd, 1) := by decide +kernel
theorem dX7_takesColumn_49 : decode cX7_takesColumn 49 = .ok (.putfield 73, 3) := by decide +kernel
theorem dX7_takesColumn_52 : decode cX7_takesColumn 52 = .ok (.aload_n 0, 1) := by decide +kernel
theorem dX7_takesColumn_53 : decode cX7_takesColumn 53 = .ok (.iconst 0, 1) := by decide +kernel
theorem dX7_takesColumn_54 : decode cX7_takesColumn 54 = .ok (.bipush 63, 2) := by decide +kernel
theorem dX7_takesColumn_56 : decode cX7_takesColumn 56 = .ok (.invokevirtual 100, 3) := by decide +kernel
theorem dX7_takesColumn_59 : decode cX7_takesColumn 59 = .ok (.ifCond .ne 5, 3) := by decide +kernel
theorem dX7_takesColumn_62 : decode cX7_takesColumn 62 = .ok (.iconst 0, 1) := by decide +kernel
theorem dX7_takesColumn_63 : decode cX7_takesColumn 63 = .ok (.ireturn, 1) := by decide +kernel
theorem dX7_takesColumn_64 : decode cX7_takesColumn 64 = .ok (.aload_n 0, 1) := by decide +kernel
theorem dX7_takesColumn_65 : decode cX7_takesColumn 65 = .ok (.getfield 7, 3) := by decide +kernel
theorem dX7_takesColumn_68 : decode cX7_takesColumn 68 = .ok (.sipush 202, 3) := by decide +kernel
theorem dX7_takesColumn_71 : decode cX7_takesColumn 71 = .ok (.aload_n 0, 1) := by decide +kernel
theorem dX7_takesColumn_72 : decode cX7_takesColumn 72 = .ok (.getfield 7, 3) := by decide +kernel
theorem dX7_takesColumn_75 : decode cX7_takesColumn 75 = .ok (.sipush 173, 3) := by decide +kernel
theorem dX7_takesColumn_78 : decode cX7_takesColumn 78 = .ok (.iaload, 1) := by decide +kernel
theorem dX7_takesColumn_79 : decode cX7_takesColumn 79 = .ok (.iadd, 1) := by decide +kernel
theorem dX7_takesColumn_80 : decode cX7_takesColumn 80 = .ok (.aload_n 0, 1) := by decide +kernel
theorem dX7_takesColumn_81 : decode cX7_takesColumn 81 = .ok (.getfield 90, 3) := by decide +kernel
theorem dX7_takesColumn_84 : decode cX7_takesColumn 84 = .ok (.iastore, 1) := by decide +kernel
theorem dX7_takesColumn_85 : decode cX7_takesColumn 85 = .ok (.aload_n 0, 1) := by decide +kernel
theorem dX7_takesColumn_86 : decode cX7_takesColumn 86 = .ok (.getfield 7, 3) := by decide +kernel
theorem dX7_takesColumn_89 : decode cX7_takesColumn 89 = .ok (.sipush 173, 3) := by decide +kernel
theorem dX7_takesColumn_92 : decode cX7_takesColumn 92 = .ok (.dup2, 1) := by decide +kernel
theorem dX7_takesColumn_93 : decode cX7_takesColumn 93 = .ok (.iaload, 1) := by decide +kernel
theorem dX7_takesColumn_94 : decode cX7_takesColumn 94 = .ok (.iconst 1, 1) := by decide +kernel
theorem dX7_takesColumn_95 : decode cX7_takesColumn 95 = .ok (.iadd, 1) := by decide +kernel
theorem dX7_takesColumn_96 : decode cX7_takesColumn 96 = .ok (.iastore, 1) := by decide +kernel
theorem dX7_takesColumn_97 : decode cX7_takesColumn 97 = .ok (.aload_n 0, 1) := by decide +kernel
theorem dX7_takesColumn_98 : decode cX7_takesColumn 98 = .ok (.bipush 59, 2) := by decide +kernel
theorem dX7_takesColumn_100 : decode cX7_takesColumn 100 = .ok (.invokevirtual 97, 3) := by decide +kernel
theorem dX7_takesColumn_103 : decode cX7_takesColumn 103 = .ok (.ireturn, 1) := by decide +kernel
theorem dX7_takesTooth_0 : decode cX7_takesTooth 0 = .ok (.aload_n 0, 1) := by decide +kernel
theorem dX7_takesTooth_1 : decode cX7_takesTooth 1 = .ok (.invokevirtual 82, 3) := by decide +kernel
theorem dX7_takesTooth_4 : decode cX7_takesTooth 4 = .ok (.invokestatic 103, 3) := by decide +kernel
theorem dX7_takesTooth_7 : decode cX7_takesTooth 7 = .ok (.istore_n 1, 1) := by decide +kernel
theorem dX7_takesTooth_8 : decode cX7_takesTooth 8 = .ok (.iload_n 1, 1) := by decide +kernel
theorem dX7_takesTooth_9 : decode cX7_takesTooth 9 = .ok (.ifCond .ne 13, 3) := by decide +kernel
theorem dX7_takesTooth_12 : decode cX7_takesTooth 12 = .ok (.aload_n 0, 1) := by decide +kernel
theorem dX7_takesTooth_13 : decode cX7_takesTooth 13 = .ok (.iconst 1, 1) := by decide +kernel
theorem dX7_takesTooth_14 : decode cX7_takesTooth 14 = .ok (.aload_n 0, 1) := by decide +kernel
theorem dX7_takesTooth_15 : decode cX7_takesTooth 15 = .ok (.getfield 73, 3) := by decide +kernel
theorem dX7_takesTooth_18 : decode cX7_takesTooth 18 = .ok (.invokevirtual 86, 3) := by decide +kernel
theorem dX7_takesTooth_21 : decode cX7_takesTooth 21 = .ok (.ireturn, 1) := by decide +kernel
theorem dX7_takesTooth_22 : decode cX7_takesTooth 22 = .ok (.aload_n 0, 1) := by decide +kernel
theorem dX7_takesTooth_23 : decode cX7_takesTooth 23 = .ok (.getfield 7, 3) := by decide +kernel
theorem dX7_takesTooth_26 : decode cX7_takesTooth 26 = .ok (.sipush 172, 3) := by decide +kernel
theorem dX7_takesTooth_29 : decode cX7_takesTooth 29 = .ok (.iaload, 1) := by decide +kernel
theorem dX7_takesTooth_30 : decode cX7_takesTooth 30 = .ok (.bipush 6, 2) := by decide +kernel
theorem dX7_takesTooth_32 : decode cX7_takesTooth 32 = .ok (.if_icmp .ne 13, 3) := by decide +kernel
theorem dX7_takesTooth_35 : decode cX7_takesTooth 35 = .ok (.aload_n 0, 1) := by decide +kernel
theorem dX7_takesTooth_36 : decode cX7_takesTooth 36 = .ok (.iconst 3, 1) := by decide +kernel
theorem dX7_takesTooth_37 : decode cX7_takesTooth 37 = .ok (.aload_n 0, 1) := by decide +kernel
theorem dX7_takesTooth_38 : decode cX7_takesTooth 38 = .ok (.getfield 73, 3) := by decide +kernel
theorem dX7_takesTooth_41 : decode cX7_takesTooth 41 = .ok (.invokevirtual 86, 3) := by decide +kernel
theorem dX7_takesTooth_44 : decode cX7_takesTooth 44 = .ok (.ireturn, 1) := by decide +kernel
theorem dX7_takesTooth_45 : decode cX7_takesTooth 45 = .ok (.aload_n 0, 1) := by decide +kernel
theorem dX7_takesTooth_46 : decode cX7_takesTooth 46 = .ok (.dup, 1) := by decide +kernel
theorem dX7_takesTooth_47 : decode cX7_takesTooth 47 = .ok (.getfield 73, 3) := by decide +kernel
theorem dX7_takesTooth_50 : decode cX7_takesTooth 50 = .ok (.iconst 1, 1) := by decide +kernel
theorem dX7_takesTooth_51 : decode cX7_takesTooth 51 = .ok (.iadd, 1) := by decide +kernel
theorem dX7_takesTooth_52 : decode cX7_takesTooth 52 = .ok (.putfield 73, 3) := by decide +kernel
theorem dX7_takesTooth_55 : decode cX7_takesTooth 55 = .ok (.aload_n 0, 1) := by decide +kernel
theorem dX7_takesTooth_56 : decode cX7_takesTooth 56 = .ok (.getfield 7, 3) := by decide +kernel
theorem dX7_takesTooth_59 : decode cX7_takesTooth 59 = .ok (.sipush 178, 3) := by decide +kernel
theorem dX7_takesTooth_62 : decode cX7_takesTooth 62 = .ok (.aload_n 0, 1) := by decide +kernel
theorem dX7_takesTooth_63 : decode cX7_takesTooth 63 = .ok (.getfield 7, 3) := by decide +kernel
theorem dX7_takesTooth_66 : decode cX7_takesTooth 66 = .ok (.sipush 172, 3) := by decide +kernel
theorem dX7_takesTooth_69 : decode cX7_takesTooth 69 = .ok (.iaload, 1) := by decide +kernel
theorem dX7_takesTooth_70 : decode cX7_takesTooth 70 = .ok (.iadd, 1) := by decide +kernel
theorem dX7_takesTooth_71 : decode cX7_takesTooth 71 = .ok (.iload_n 1, 1) := by decide +kernel
theorem dX7_takesTooth_72 : decode cX7_takesTooth 72 = .ok (.iastore, 1) := by decide +kernel
theorem dX7_takesTooth_73 : decode cX7_takesTooth 73 = .ok (.aload_n 0, 1) := by decide +kernel
theorem dX7_takesTooth_74 : decode cX7_takesTooth 74 = .ok (.iconst 1, 1) := by decide +kernel
theorem dX7_takesTooth_75 : decode cX7_takesTooth 75 = .ok (.bipush 9, 2) := by decide +kernel
theorem dX7_takesTooth_77 : decode cX7_takesTooth 77 = .ok (.invokevirtual 100, 3) := by decide +kernel
theorem dX7_takesTooth_80 : decode cX7_takesTooth 80 = .ok (.ifCond .ne 5, 3) := by decide +kernel
theorem dX7_takesTooth_83 : decode cX7_takesTooth 83 = .ok (.iconst 0, 1) := by decide +kernel
theorem dX7_takesTooth_84 : decode cX7_takesTooth 84 = .ok (.ireturn, 1) := by decide +kernel
theorem dX7_takesTooth_85 : decode cX7_takesTooth 85 = .ok (.aload_n 0, 1) := by decide +kernel
theorem dX7_takesTooth_86 : decode cX7_takesTooth 86 = .ok (.getfield 7, 3) := by decide +kernel
theorem dX7_takesTooth_89 : decode cX7_takesTooth 89 = .ok (.sipush 184, 3) := by decide +kernel
theorem dX7_takesTooth_92 : decode cX7_takesTooth 92 = .ok (.aload_n 0, 1) := by decide +kernel
theorem dX7_takesTooth_93 : decode cX7_takesTooth 93 = .ok (.getfield 7, 3) := by decide +kernel
theorem dX7_takesTooth_96 : decode cX7_takesTooth 96 = .ok (.sipush 172, 3) := by decide +kernel
theorem dX7_takesTooth_99 : decode cX7_takesTooth 99 = .ok (.iaload, 1) := by decide +kernel
theorem dX7_takesTooth_100 : decode cX7_takesTooth 100 = .ok (.iadd, 1) := by decide +kernel
theorem dX7_takesTooth_101 : decode cX7_takesTooth 101 = .ok (.aload_n 0, 1) := by decide +kernel
theorem dX7_takesTooth_102 : decode cX7_takesTooth 102 = .ok (.getfield 90, 3) := by decide +kernel
theorem dX7_takesTooth_105 : decode cX7_takesTooth 105 = .ok (.iastore, 1) := by decide +kernel
theorem dX7_takesTooth_106 : decode cX7_takesTooth 106 = .ok (.aload_n 0, 1) := by decide +kernel
theorem dX7_takesTooth_107 : decode cX7_takesTooth 107 = .ok (.getfield 7, 3) := by decide +kernel
theorem dX7_takesTooth_110 : decode cX7_takesTooth 110 = .ok (.sipush 172, 3) := by decide +kernel
theorem dX7_takesTooth_113 : decode cX7_takesTooth 113 = .ok (.dup2, 1) := by decide +kernel
theorem dX7_takesTooth_114 : decode cX7_takesTooth 114 = .ok (.iaload, 1) := by decide +kernel
theorem dX7_takesTooth_115 : decode cX7_takesTooth 115 = .ok (.iconst 1, 1) := by decide +kernel
theorem dX7_takesTooth_116 : decode cX7_takesTooth 116 = .ok (.iadd, 1) := by decide +kernel
theorem dX7_takesTooth_117 : decode cX7_takesTooth 117 = .ok (.iastore, 1) := by decide +kernel
theorem dX7_takesTooth_118 : decode cX7_takesTooth 118 = .ok (.aload_n 0, 1) := by decide +kernel
theorem dX7_takesTooth_119 : decode cX7_takesTooth 119 = .ok (.bipush 59, 2) := by decide +kernel
theorem dX7_takesTooth_121 : decode cX7_takesTooth 121 = .ok (.invokevirtual 97, 3) := by decide +kernel
theorem dX7_takesTooth_124 : decode cX7_takesTooth 124 = .ok (.ireturn, 1) := by decide +kernel
theorem dX7_takesAll_0 : decode cX7_takesAll 0 = .ok (.aload_n 0, 1) := by decide +kernel
theorem dX7_takesAll_1 : decode cX7_takesAll 1 = .ok (.invokevirtual 106, 3) := by decide +kernel
theorem dX7_takesAll_4 : decode cX7_takesAll 4 = .ok (.ifCond .ne 5, 3) := by decide +kernel
theorem dX7_takesAll_7 : decode cX7_takesAll 7 = .ok (.iconst 0, 1) := by decide +kernel
theorem dX7_takesAll_8 : decode cX7_takesAll 8 = .ok (.ireturn, 1) := by decide +kernel
theorem dX7_takesAll_9 : decode cX7_takesAll 9 = .ok (.aload_n 0, 1) := by decide +kernel
theorem dX7_takesAll_10 : decode cX7_takesAll 10 = .ok (.getfield 7, 3) := by decide +kernel
theorem dX7_takesAll_13 : decode cX7_takesAll 13 = .ok (.sipush 173, 3) := by decide +kernel
theorem dX7_takesAll_16 : decode cX7_takesAll 16 = .ok (.iaload, 1) := by decide +kernel
theorem dX7_takesAll_17 : decode cX7_takesAll 17 = .ok (.iconst 4, 1) := by decide +kernel
theorem dX7_takesAll_18 : decode cX7_takesAll 18 = .ok (.if_icmp .lt 12, 3) := by decide +kernel
theorem dX7_takesAll_21 : decode cX7_takesAll 21 = .ok (.aload_n 0, 1) := by decide +kernel
theorem dX7_takesAll_22 : decode cX7_takesAll 22 = .ok (.invokevirtual 82, 3) := by decide +kernel
theorem dX7_takesAll_25 : decode cX7_takesAll 25 = .ok (.bipush 112, 2) := by decide +kernel
theorem dX7_takesAll_27 : decode cX7_takesAll 27 = .ok (.if_icmp .ne 12, 3) := by decide +kernel
theorem dX7_takesAll_30 : decode cX7_takesAll 30 = .ok (.aload_n 0, 1) := by decide +kernel
theorem dX7_takesAll_31 : decode cX7_takesAll 31 = .ok (.invokevirtual 110, 3) := by decide +kernel
theorem dX7_takesAll_34 : decode cX7_takesAll 34 = .ok (.ifCond .ne (-25), 3) := by decide +kernel
theorem dX7_takesAll_37 : decode cX7_takesAll 37 = .ok (.iconst 0, 1) := by decide +kernel
theorem dX7_takesAll_38 : decode cX7_takesAll 38 = .ok (.ireturn, 1) := by decide +kernel
theorem dX7_takesAll_39 : decode cX7_takesAll 39 = .ok (.aload_n 0, 1) := by decide +kernel
theorem dX7_takesAll_40 : decode cX7_takesAll 40 = .ok (.getfield 7, 3) := by decide +kernel
theorem dX7_takesAll_43 : decode cX7_takesAll 43 = .ok (.sipush 172, 3) := by decide +kernel
theorem dX7_takesAll_46 : decode cX7_takesAll 46 = .ok (.iaload, 1) := by decide +kernel
theorem dX7_takesAll_47 : decode cX7_takesAll 47 = .ok (.ifCond .eq 14, 3) := by decide +kernel
theorem dX7_takesAll_50 : decode cX7_takesAll 50 = .ok (.aload_n 0, 1) := by decide +kernel
theorem dX7_takesAll_51 : decode cX7_takesAll 51 = .ok (.getfield 73, 3) := by decide +kernel
theorem dX7_takesAll_54 : decode cX7_takesAll 54 = .ok (.aload_n 0, 1) := by decide +kernel
theorem dX7_takesAll_55 : decode cX7_takesAll 55 = .ok (.getfield 69, 3) := by decide +kernel
theorem dX7_takesAll_58 : decode cX7_takesAll 58 = .ok (.if_icmp .ge 12, 3) := by decide +kernel
theorem dX7_takesAll_61 : decode cX7_takesAll 61 = .ok (.aload_n 0, 1) := by decide +kernel
theorem dX7_takesAll_62 : decode cX7_takesAll 62 = .ok (.invokevirtual 113, 3) := by decide +kernel
theorem dX7_takesAll_65 : decode cX7_takesAll 65 = .ok (.ifCond .ne (-26), 3) := by decide +kernel
theorem dX7_takesAll_68 : decode cX7_takesAll 68 = .ok (.iconst 0, 1) := by decide +kernel
theorem dX7_takesAll_69 : decode cX7_takesAll 69 = .ok (.ireturn, 1) := by decide +kernel
theorem dX7_takesAll_70 : decode cX7_takesAll 70 = .ok (.iconst 1, 1) := by decide +kernel
theorem dX7_takesAll_71 : decode cX7_takesAll 71 = .ok (.ireturn, 1) := by decide +kernel
theorem dX7_box_0 : decode cX7_box 0 = .ok (.iconst 0, 1) := by decide +kernel
theorem dX7_box_1 : decode cX7_box 1 = .ok (.istore_n 1, 1) := by decide +kernel
theorem dX7_box_2 : decode cX7_box 2 = .ok (.iload_n 1, 1) := by decide +kernel
theorem dX7_box_3 : decode cX7_box 3 = .ok (.bipush 43, 2) := by decide +kernel
theorem dX7_box_5 : decode cX7_box 5 = .ok (.if_icmp .ge 20, 3) := by decide +kernel
theorem dX7_box_8 : decode cX7_box 8 = .ok (.aload_n 0, 1) := by decide +kernel
theorem dX7_box_9 : decode cX7_box 9 = .ok (.getfield 7, 3) := by decide +kernel
theorem dX7_box_12 : decode cX7_box 12 = .ok (.sipush 172, 3) := by decide +kernel
theorem dX7_box_15 : decode cX7_box 15 = .ok (.iload_n 1, 1) := by decide +kernel
theorem dX7_box_16 : decode cX7_box 16 = .ok (.iadd, 1) := by decide +kernel
theorem dX7_box_17 : decode cX7_box 17 = .ok (.iconst 0, 1) := by decide +kernel
theorem dX7_box_18 : decode cX7_box 18 = .ok (.iastore, 1) := by decide +kernel
theorem dX7_box_19 : decode cX7_box 19 = .ok (.iinc 1 1, 3) := by decide +kernel
theorem dX7_box_22 : decode cX7_box 22 = .ok (.goto (-20), 3) := by decide +kernel
theorem dX7_box_25 : decode cX7_box 25 = .ok (.aload_n 0, 1) := by decide +kernel
theorem dX7_box_26 : decode cX7_box 26 = .ok (.iconst 0, 1) := by decide +kernel
theorem dX7_box_27 : decode cX7_box 27 = .ok (.putfield 73, 3) := by decide +kernel
theorem dX7_box_30 : decode cX7_box 30 = .ok (.aload_n 0, 1) := by decide +kernel
theorem dX7_box_31 : decode cX7_box 31 = .ok (.invokevirtual 116, 3) := by decide +kernel
theorem dX7_box_34 : decode cX7_box 34 = .ok (.istore_n 1, 1) := by decide +kernel
theorem dX7_box_35 : decode cX7_box 35 = .ok (.aload_n 0, 1) := by decide +kernel
theorem dX7_box_36 : decode cX7_box 36 = .ok (.iconst 0, 1) := by decide +kernel
theorem dX7_box_37 : decode cX7_box 37 = .ok (.putfield 69, 3) := by decide +kernel
theorem dX7_box_40 : decode cX7_box 40 = .ok (.iload_n 1, 1) := by decide +kernel
theorem dX7_box_41 : decode cX7_box 41 = .ok (.ifCond .ne 11, 3) := by decide +kernel
theorem dX7_box_44 : decode cX7_box 44 = .ok (.ldc 119, 2) := by decide +kernel
theorem dX7_box_46 : decode cX7_box 46 = .ok (.aload_n 0, 1) := by decide +kernel
theorem dX7_box_47 : decode cX7_box 47 = .ok (.getfield 79, 3) := by decide +kernel
theorem dX7_box_50 : decode cX7_box 50 = .ok (.isub, 1) := by decide +kernel
theorem dX7_box_51 : decode cX7_box 51 = .ok (.ireturn, 1) := by decide +kernel
theorem dX7_box_52 : decode cX7_box 52 = .ok (.aload_n 0, 1) := by decide +kernel
theorem dX7_box_53 : decode cX7_box 53 = .ok (.sipush 172, 3) := by decide +kernel
theorem dX7_box_56 : decode cX7_box 56 = .ok (.iconst 0, 1) := by decide +kernel
theorem dX7_box_57 : decode cX7_box 57 = .ok (.invokevirtual 120, 3) := by decide +kernel
theorem dX7_box_60 : decode cX7_box 60 = .ok (.aload_n 0, 1) := by decide +kernel
theorem dX7_box_61 : decode cX7_box 61 = .ok (.iconst 0, 1) := by decide +kernel
theorem dX7_box_62 : decode cX7_box 62 = .ok (.putfield 124, 3) := by decide +kernel
theorem dX7_box_65 : decode cX7_box 65 = .ok (.aload_n 0, 1) := by decide +kernel
theorem dX7_box_66 : decode cX7_box 66 = .ok (.getfield 7, 3) := by decide +kernel
theorem dX7_box_69 : decode cX7_box 69 = .ok (.iconst 0, 1) := by decide +kernel
theorem dX7_box_70 : decode cX7_box 70 = .ok (.iaload, 1) := by decide +kernel
theorem dX7_box_71 : decode cX7_box 71 = .ok (.ireturn, 1) := by decide +kernel
theorem dX7_fault_0 : decode cX7_fault 0 = .ok (.aload_n 0, 1) := by decide +kernel
theorem dX7_fault_1 : decode cX7_fault 1 = .ok (.getfield 76, 3) := by decide +kernel
theorem dX7_fault_4 : decode cX7_fault 4 = .ok (.ireturn, 1) := by decide +kernel
theorem dX7_fades_0 : decode cX7_fades 0 = .ok (.iconst 0, 1) := by decide +kernel
theorem dX7_fades_1 : decode cX7_fades 1 = .ok (.istore_n 2, 1) := by decide +kernel
theorem dX7_fades_2 : decode cX7_fades 2 = .ok (.iload_n 2, 1) := by decide +kernel
theorem dX7_fades_3 : decode cX7_fades 3 = .ok (.aload_n 0, 1) := by decide +kernel
theorem dX7_fades_4 : decode cX7_fades 4 = .ok (.getfield 7, 3) := by decide +kernel
theorem dX7_fades_7 : decode cX7_fades 7 = .ok (.iload_n 1, 1) := by decide +kernel
theorem dX7_fades_8 : decode cX7_fades 8 = .ok (.iconst 0, 1) := by decide +kernel
theorem dX7_fades_9 : decode cX7_fades 9 = .ok (.iadd, 1) := by decide +kernel
theorem dX7_fades_10 : decode cX7_fades 10 = .ok (.iaload, 1) := by decide +kernel
theorem dX7_fades_11 : decode cX7_fades 11 = .ok (.if_icmp .ge 95, 3) := by decide +kernel
theorem dX7_fades_14 : decode cX7_fades 14 = .ok (.aload_n 0, 1) := by decide +kernel
theorem dX7_fades_15 : decode cX7_fades 15 = .ok (.getfield 7, 3) := by decide +kernel
theorem dX7_fades_18 : decode cX7_fades 18 = .ok (.iload_n 1, 1) := by decide +kernel
theorem dX7_fades_19 : decode cX7_fades 19 = .ok (.bipush 18, 2) := by decide +kernel
theorem dX7_fades_21 : decode cX7_fades 21 = .ok (.iadd, 1) := by decide +kernel
theorem dX7_fades_22 : decode cX7_fades 22 = .ok (.iload_n 2, 1) := by decide +kernel
theorem dX7_fades_23 : decode cX7_fades 23 = .ok (.iadd, 1) := by decide +kernel
theorem dX7_fades_24 : decode cX7_fades 24 = .ok (.iaload, 1) := by decide +kernel
theorem dX7_fades_25 : decode cX7_fades 25 = .ok (.istore_n 3, 1) := by decide +kernel
theorem dX7_fades_26 : decode cX7_fades 26 = .ok (.aload_n 0, 1) := by decide +kernel
theorem dX7_fades_27 : decode cX7_fades 27 = .ok (.getfield 7, 3) := by decide +kernel
theorem dX7_fades_30 : decode cX7_fades 30 = .ok (.iload_n 1, 1) := by decide +kernel
theorem dX7_fades_31 : decode cX7_fades 31 = .ok (.bipush 6, 2) := by decide +kernel
theorem dX7_fades_33 : decode cX7_fades 33 = .ok (.iadd, 1) := by decide +kernel
theorem dX7_fades_34 : decode cX7_fades 34 = .ok (.iload_n 2, 1) := by decide +kernel
theorem dX7_fades_35 : decode cX7_fades 35 = .ok (.iadd, 1) := by decide +kernel
theorem dX7_fades_36 : decode cX7_fades 36 = .ok (.iaload, 1) := by decide +kernel
theorem dX7_fades_37 : decode cX7_fades 37 = .ok (.istore 4, 2) := by decide +kernel
theorem dX7_fades_39 : decode cX7_fades 39 = .ok (.iload 4, 2) := by decide +kernel
theorem dX7_fades_41 : decode cX7_fades 41 = .ok (.iconst 2, 1) := by decide +kernel
theorem dX7_fades_42 : decode cX7_fades 42 = .ok (.if_icmp .ne 7, 3) := by decide +kernel
theorem dX7_fades_45 : decode cX7_fades 45 = .ok (.iconst 0, 1) := by decide +kernel
theorem dX7_fades_46 : decode cX7_fades 46 = .ok (.goto 30, 3) := by decide +kernel
theorem dX7_fades_49 : decode cX7_fades 49 = .ok (.iload 4, 2) := by decide +kernel
theorem dX7_fades_51 : decode cX7_fades 51 = .ok (.iconst 4, 1) := by decide +kernel
theorem dX7_fades_52 : decode cX7_fades 52 = .ok (.if_icmp .ne 9, 3) := by decide +kernel
theorem dX7_fades_55 : decode cX7_fades 55 = .ok (.iload_n 3, 1) := by decide +kernel
theorem dX7_fades_56 : decode cX7_fades 56 = .ok (.iconst 1, 1) := by decide +kernel
theorem dX7_fades_57 : decode cX7_fades 57 = .ok (.isub, 1) := by decide +kernel
theorem dX7_fades_58 : decode cX7_fades 58 = .ok (.goto 18, 3) := by decide +kernel
theorem dX7_fades_61 : decode cX7_fades 61 = .ok (.iload 4, 2) := by decide +kernel
theorem dX7_fades_63 : decode cX7_fades 63 = .ok (.iconst 5, 1) := by decide +kernel
theorem dX7_fades_64 : decode cX7_fades 64 = .ok (.if_icmp .ne 9, 3) := by decide +kernel
theorem dX7_fades_67 : decode cX7_fades 67 = .ok (.iload_n 3, 1) := by decide +kernel
theorem dX7_fades_68 : decode cX7_fades 68 = .ok (.iconst 2, 1) := by decide +kernel
theorem dX7_fades_69 : decode cX7_fades 69 = .ok (.idiv, 1) := by decide +kernel
theorem dX7_fades_70 : decode cX7_fades 70 = .ok (.goto 6, 3) := by decide +kernel
theorem dX7_fades_73 : decode cX7_fades 73 = .ok (.iload_n 3, 1) := by decide +kernel
theorem dX7_fades_74 : decode cX7_fades 74 = .ok (.iconst 2, 1) := by decide +kernel
theorem dX7_fades_75 : decode cX7_fades 75 = .ok (.isub, 1) := by decide +kernel
theorem dX7_fades_76 : decode cX7_fades 76 = .ok (.istore 5, 2) := by decide +kernel
theorem dX7_fades_78 : decode cX7_fades 78 = .ok (.aload_n 0, 1) := by decide +kernel
theorem dX7_fades_79 : decode cX7_fades 79 = .ok (.getfield 7, 3) := by decide +kernel
theorem dX7_fades_82 : decode cX7_fades 82 = .ok (.iload_n 1, 1) := by decide +kernel
theorem dX7_fades_83 : decode cX7_fades 83 = .ok (.bipush 18, 2) := by decide +kernel
theorem dX7_fades_85 : decode cX7_fades 85 = .ok (.iadd, 1) := by decide +kernel
theorem dX7_fades_86 : decode cX7_fades 86 = .ok (.iload_n 2, 1) := by decide +kernel
theorem dX7_fades_87 : decode cX7_fades 87 = .ok (.iadd, 1) := by decide +kernel
theorem dX7_fades_88 : decode cX7_fades 88 = .ok (.iload 5, 2) := by decide +kernel
theorem dX7_fades_90 : decode cX7_fades 90 = .ok (.ifCond .ge 7, 3) := by decide +kernel
theorem dX7_fades_93 : decode cX7_fades 93 = .ok (.iconst 0, 1) := by decide +kernel
theorem dX7_fades_94 : decode cX7_fades 94 = .ok (.goto 5, 3) := by decide +kernel
theorem dX7_fades_97 : decode cX7_fades 97 = .ok (.iload 5, 2) := by decide +kernel
theorem dX7_fades_99 : decode cX7_fades 99 = .ok (.iastore, 1) := by decide +kernel
theorem dX7_fades_100 : decode cX7_fades 100 = .ok (.iinc 2 1, 3) := by decide +kernel
theorem dX7_fades_103 : decode cX7_fades 103 = .ok (.goto (-101), 3) := by decide +kernel
theorem dX7_fades_106 : decode cX7_fades 106 = .ok (.return_, 1) := by decide +kernel
theorem dX7_plucks_0 : decode cX7_plucks 0 = .ok (.aload_n 0, 1) := by decide +kernel
theorem dX7_plucks_1 : decode cX7_plucks 1 = .ok (.getfield 7, 3) := by decide +kernel
theorem dX7_plucks_4 : decode cX7_plucks 4 = .ok (.iload_n 1, 1) := by decide +kernel
theorem dX7_plucks_5 : decode cX7_plucks 5 = .ok (.iconst 2, 1) := by decide +kernel
theorem dX7_plucks_6 : decode cX7_plucks 6 = .ok (.iadd, 1) := by decide +kernel
theorem dX7_plucks_7 : decode cX7_plucks 7 = .ok (.dup2, 1) := by decide +kernel
theorem dX7_plucks_8 : decode cX7_plucks 8 = .ok (.iaload, 1) := by decide +kernel
theorem dX7_plucks_9 : decode cX7_plucks 9 = .ok (.iconst 1, 1) := by decide +kernel
theorem dX7_plucks_10 : decode cX7_plucks 10 = .ok (.isub, 1) := by decide +kernel
theorem dX7_plucks_11 : decode cX7_plucks 11 = .ok (.iastore, 1) := by decide +kernel
theorem dX7_plucks_12 : decode cX7_plucks 12 = .ok (.aload_n 0, 1) := by decide +kernel
theorem dX7_plucks_13 : decode cX7_plucks 13 = .ok (.getfield 7, 3) := by decide +kernel
theorem dX7_plucks_16 : decode cX7_plucks 16 = .ok (.iload_n 1, 1) := by decide +kernel
theorem dX7_plucks_17 : decode cX7_plucks 17 = .ok (.bipush 42, 2) := by decide +kernel
theorem dX7_plucks_19 : decode cX7_plucks 19 = .ok (.iadd, 1) := by decide +kernel
theorem dX7_plucks_20 : decode cX7_plucks 20 = .ok (.dup2, 1) := by decide +kernel
theorem dX7_plucks_21 : decode cX7_plucks 21 = .ok (.iaload, 1) := by decide +kernel
theorem dX7_plucks_22 : decode cX7_plucks 22 = .ok (.iconst 1, 1) := by decide +kernel
theorem dX7_plucks_23 : decode cX7_plucks 23 = .ok (.iadd, 1) := by decide +kernel
theorem dX7_plucks_24 : decode cX7_plucks 24 = .ok (.iastore, 1) := by decide +kernel
theorem dX7_plucks_25 : decode cX7_plucks 25 = .ok (.aload_n 0, 1) := by decide +kernel
theorem dX7_plucks_26 : decode cX7_plucks 26 = .ok (.getfield 7, 3) := by decide +kernel
theorem dX7_plucks_29 : decode cX7_plucks 29 = .ok (.iload_n 1, 1) := by decide +kernel
theorem dX7_plucks_30 : decode cX7_plucks 30 = .ok (.bipush 24, 2) := by decide +kernel
theorem dX7_plucks_32 : decode cX7_plucks 32 = .ok (.iadd, 1) := by decide +kernel
theorem dX7_plucks_33 : decode cX7_plucks 33 = .ok (.iload_n 2, 1) := by decide +kernel
theorem dX7_plucks_34 : decode cX7_plucks 34 = .ok (.iadd, 1) := by decide +kernel
theorem dX7_plucks_35 : decode cX7_plucks 35 = .ok (.dup2, 1) := by decide +kernel
theorem dX7_plucks_36 : decode cX7_plucks 36 = .ok (.iaload, 1) := by decide +kernel
theorem dX7_plucks_37 : decode cX7_plucks 37 = .ok (.aload_n 0, 1) := by decide +kernel
theorem dX7_plucks_38 : decode cX7_plucks 38 = .ok (.getfield 7, 3) := by decide +kernel
theorem dX7_plucks_41 : decode cX7_plucks 41 = .ok (.iload_n 1, 1) := by decide +kernel
theorem dX7_plucks_42 : decode cX7_plucks 42 = .ok (.bipush 24, 2) := by decide +kernel
theorem dX7_plucks_44 : decode cX7_plucks 44 = .ok (.iadd, 1) := by decide +kernel
theorem dX7_plucks_45 : decode cX7_plucks 45 = .ok (.iload_n 2, 1) := by decide +kernel
theorem dX7_plucks_46 : decode cX7_plucks 46 = .ok (.iadd, 1) := by decide +kernel
theorem dX7_plucks_47 : decode cX7_plucks 47 = .ok (.iaload, 1) := by decide +kernel
theorem dX7_plucks_48 : decode cX7_plucks 48 = .ok (.bipush 99, 2) := by decide +kernel
theorem dX7_plucks_50 : decode cX7_plucks 50 = .ok (.if_icmp .ge 7, 3) := by decide +kernel
theorem dX7_plucks_53 : decode cX7_plucks 53 = .ok (.iconst 1, 1) := by decide +kernel
theorem dX7_plucks_54 : decode cX7_plucks 54 = .ok (.goto 4, 3) := by decide +kernel
theorem dX7_plucks_57 : decode cX7_plucks 57 = .ok (.iconst 0, 1) := by decide +kernel
theorem dX7_plucks_58 : decode cX7_plucks 58 = .ok (.iadd, 1) := by decide +kernel
theorem dX7_plucks_59 : decode cX7_plucks 59 = .ok (.iastore, 1) := by decide +kernel
theorem dX7_plucks_60 : decode cX7_plucks 60 = .ok (.aload_n 0, 1) := by decide +kernel
theorem dX7_plucks_61 : decode cX7_plucks 61 = .ok (.getfield 7, 3) := by decide +kernel
theorem dX7_plucks_64 : decode cX7_plucks 64 = .ok (.iload_n 1, 1) := by decide +kernel
theorem dX7_plucks_65 : decode cX7_plucks 65 = .ok (.bipush 6, 2) := by decide +kernel
theorem dX7_plucks_67 : decode cX7_plucks 67 = .ok (.iadd, 1) := by decide +kernel
theorem dX7_plucks_68 : decode cX7_plucks 68 = .ok (.iload_n 2, 1) := by decide +kernel
theorem dX7_plucks_69 : decode cX7_plucks 69 = .ok (.iadd, 1) := by decide +kernel
theorem dX7_plucks_70 : decode cX7_plucks 70 = .ok (.iaload, 1) := by decide +kernel
theorem dX7_plucks_71 : decode cX7_plucks 71 = .ok (.istore_n 3, 1) := by decide +kernel
theorem dX7_plucks_72 : decode cX7_plucks 72 = .ok (.aload_n 0, 1) := by decide +kernel
theorem dX7_plucks_73 : decode cX7_plucks 73 = .ok (.getfield 7, 3) := by decide +kernel
theorem dX7_plucks_76 : decode cX7_plucks 76 = .ok (.iload_n 1, 1) := by decide +kernel
theorem dX7_plucks_77 : decode cX7_plucks 77 = .ok (.bipush 12, 2) := by decide +kernel
theorem dX7_plucks_79 : decode cX7_plucks 79 = .ok (.iadd, 1) := by decide +kernel
theorem dX7_plucks_80 : decode cX7_plucks 80 = .ok (.iload_n 2, 1) := by decide +kernel
theorem dX7_plucks_81 : decode cX7_plucks 81 = .ok (.iadd, 1) := by decide +kernel
theorem dX7_plucks_82 : decode cX7_plucks 82 = .ok (.iaload, 1) := by decide +kernel
theorem dX7_plucks_83 : decode cX7_plucks 83 = .ok (.istore 4, 2) := by decide +kernel
theorem dX7_plucks_85 : decode cX7_plucks 85 = .ok (.aload_n 0, 1) := by decide +kernel
theorem dX7_plucks_86 : decode cX7_plucks 86 = .ok (.getfield 7, 3) := by decide +kernel
theorem dX7_plucks_89 : decode cX7_plucks 89 = .ok (.iload_n 1, 1) := by decide +kernel
theorem dX7_plucks_90 : decode cX7_plucks 90 = .ok (.bipush 18, 2) := by decide +kernel
theorem dX7_plucks_92 : decode cX7_plucks 92 = .ok (.iadd, 1) := by decide +kernel
theorem dX7_plucks_93 : decode cX7_plucks 93 = .ok (.iload_n 2, 1) := by decide +kernel
theorem dX7_plucks_94 : decode cX7_plucks 94 = .ok (.iadd, 1) := by decide +kernel
theorem dX7_plucks_95 : decode cX7_plucks 95 = .ok (.iload_n 3, 1) := by decide +kernel
theorem dX7_plucks_96 : decode cX7_plucks 96 = .ok (.iconst 2, 1) := by decide +kernel
theorem dX7_plucks_97 : decode cX7_plucks 97 = .ok (.if_icmp .ne 8, 3) := by decide +kernel
theorem dX7_plucks_100 : decode cX7_plucks 100 = .ok (.iload 4, 2) := by decide +kernel
theorem dX7_plucks_102 : decode cX7_plucks 102 = .ok (.goto 29, 3) := by decide +kernel
theorem dX7_plucks_105 : decode cX7_plucks 105 = .ok (.iload_n 3, 1) := by decide +kernel
theorem dX7_plucks_106 : decode cX7_plucks 106 = .ok (.iconst 4, 1) := by decide +kernel
theorem dX7_plucks_107 : decode cX7_plucks 107 = .ok (.if_icmp .lt 20, 3) := by decide +kernel
theorem dX7_plucks_110 : decode cX7_plucks 110 = .ok (.iload 4, 2) := by decide +kernel
theorem dX7_plucks_112 : decode cX7_plucks 112 = .ok (.aload_n 0, 1) := by decide +kernel
theorem dX7_plucks_113 : decode cX7_plucks 113 = .ok (.getfield 7, 3) := by decide +kernel
theorem dX7_plucks_116 : decode cX7_plucks 116 = .ok (.iload_n 1, 1) := by decide +kernel
theorem dX7_plucks_117 : decode cX7_plucks 117 = .ok (.iconst 2, 1) := by decide +kernel
theorem dX7_plucks_118 : decode cX7_plucks 118 = .ok (.iadd, 1) := by decide +kernel
theorem dX7_plucks_119 : decode cX7_plucks 119 = .ok (.iaload, 1) := by decide +kernel
theorem dX7_plucks_120 : decode cX7_plucks 120 = .ok (.bipush 10, 2) := by decide +kernel
theorem dX7_plucks_122 : decode cX7_plucks 122 = .ok (.idiv, 1) := by decide +kernel
theorem dX7_plucks_123 : decode cX7_plucks 123 = .ok (.iadd, 1) := by decide +kernel
theorem dX7_plucks_124 : decode cX7_plucks 124 = .ok (.goto 7, 3) := by decide +kernel
theorem dX7_plucks_127 : decode cX7_plucks 127 = .ok (.iconst 2, 1) := by decide +kernel
theorem dX7_plucks_128 : decode cX7_plucks 128 = .ok (.iload 4, 2) := by decide +kernel
theorem dX7_plucks_130 : decode cX7_plucks 130 = .ok (.imul, 1) := by decide +kernel
theorem dX7_plucks_131 : decode cX7_plucks 131 = .ok (.iastore, 1) := by decide +kernel
theorem dX7_plucks_132 : decode cX7_plucks 132 = .ok (.iload_n 3, 1) := by decide +kernel
theorem dX7_plucks_133 : decode cX7_plucks 133 = .ok (.iconst 3, 1) := by decide +kernel
theorem dX7_plucks_134 : decode cX7_plucks 134 = .ok (.if_icmp .ne 67, 3) := by decide +kernel
theorem dX7_plucks_137 : decode cX7_plucks 137 = .ok (.iload_n 2, 1) := by decide +kernel
theorem dX7_plucks_138 : decode cX7_plucks 138 = .ok (.iconst 1, 1) := by decide +kernel
theorem dX7_plucks_139 : decode cX7_plucks 139 = .ok (.iadd, 1) := by decide +kernel
theorem dX7_plucks_140 : decode cX7_plucks 140 = .ok (.aload_n 0, 1) := by decide +kernel
theorem dX7_plucks_141 : decode cX7_plucks 141 = .ok (.getfield 7, 3) := by decide +kernel
theorem dX7_plucks_144 : decode cX7_plucks 144 = .ok (.iload_n 1, 1) := by decide +kernel
theorem dX7_plucks_145 : decode cX7_plucks 145 = .ok (.iconst 0, 1) := by decide +kernel
theorem dX7_plucks_146 : decode cX7_plucks 146 = .ok (.iadd, 1) := by decide +kernel
theorem dX7_plucks_147 : decode cX7_plucks 147 = .ok (.iaload, 1) := by decide +kernel
theorem dX7_plucks_148 : decode cX7_plucks 148 = .ok (.if_icmp .ge 53, 3) := by decide +kernel
theorem dX7_plucks_151 : decode cX7_plucks 151 = .ok (.aload_n 0, 1) := by decide +kernel
theorem dX7_plucks_152 : decode cX7_plucks 152 = .ok (.getfield 7, 3) := by decide +kernel
theorem dX7_plucks_155 : decode cX7_plucks 155 = .ok (.iload_n 1, 1) := by decide +kernel
theorem dX7_plucks_156 : decode cX7_plucks 156 = .ok (.iconst 5, 1) := by decide +kernel
theorem dX7_plucks_157 : decode cX7_plucks 157 = .ok (.iadd, 1) := by decide +kernel
theorem dX7_plucks_158 : decode cX7_plucks 158 = .ok (.iaload, 1) := by decide +kernel
theorem dX7_plucks_159 : decode cX7_plucks 159 = .ok (.iload_n 2, 1) := by decide +kernel
theorem dX7_plucks_160 : decode cX7_plucks 160 = .ok (.iconst 1, 1) := by decide +kernel
theorem dX7_plucks_161 : decode cX7_plucks 161 = .ok (.iadd, 1) := by decide +kernel
theorem dX7_plucks_162 : decode cX7_plucks 162 = .ok (.invokestatic 127, 3) := by decide +kernel
theorem dX7_plucks_165 : decode cX7_plucks 165 = .ok (.ifCond .ne 36, 3) := by decide +kernel
theorem dX7_plucks_168 : decode cX7_plucks 168 = .ok (.aload_n 0, 1) := by decide +kernel
theorem dX7_plucks_169 : decode cX7_plucks 169 = .ok (.getfield 7, 3) := by decide +kernel
theorem dX7_plucks_172 : decode cX7_plucks 172 = .ok (.iload_n 1, 1) := by decide +kernel
theorem dX7_plucks_173 : decode cX7_plucks 173 = .ok (.bipush 18, 2) := by decide +kernel
theorem dX7_plucks_175 : decode cX7_plucks 175 = .ok (.iadd, 1) := by decide +kernel
theorem dX7_plucks_176 : decode cX7_plucks 176 = .ok (.iload_n 2, 1) := by decide +kernel
theorem dX7_plucks_177 : decode cX7_plucks 177 = .ok (.iadd, 1) := by decide +kernel
theorem dX7_plucks_178 : decode cX7_plucks 178 = .ok (.iconst 1, 1) := by decide +kernel
theorem dX7_plucks_179 : decode cX7_plucks 179 = .ok (.iadd, 1) := by decide +kernel
theorem dX7_plucks_180 : decode cX7_plucks 180 = .ok (.iaload, 1) := by decide +kernel
theorem dX7_plucks_181 : decode cX7_plucks 181 = .ok (.iload 4, 2) := by decide +kernel
theorem dX7_plucks_183 : decode cX7_plucks 183 = .ok (.if_icmp .ge 18, 3) := by decide +kernel
theorem dX7_plucks_186 : decode cX7_plucks 186 = .ok (.aload_n 0, 1) := by decide +kernel
theorem dX7_plucks_187 : decode cX7_plucks 187 = .ok (.getfield 7, 3) := by decide +kernel
theorem dX7_plucks_190 : decode cX7_plucks 190 = .ok (.iload_n 1, 1) := by decide +kernel
theorem dX7_plucks_191 : decode cX7_plucks 191 = .ok (.bipush 18, 2) := by decide +kernel
theorem dX7_plucks_193 : decode cX7_plucks 193 = .ok (.iadd, 1) := by decide +kernel
theorem dX7_plucks_194 : decode cX7_plucks 194 = .ok (.iload_n 2, 1) := by decide +kernel
theorem dX7_plucks_195 : decode cX7_plucks 195 = .ok (.iadd, 1) := by decide +kernel
theorem dX7_plucks_196 : decode cX7_plucks 196 = .ok (.iconst 1, 1) := by decide +kernel
theorem dX7_plucks_197 : decode cX7_plucks 197 = .ok (.iadd, 1) := by decide +kernel
theorem dX7_plucks_198 : decode cX7_plucks 198 = .ok (.iload 4, 2) := by decide +kernel
theorem dX7_plucks_200 : decode cX7_plucks 200 = .ok (.iastore, 1) := by decide +kernel
theorem dX7_plucks_201 : decode cX7_plucks 201 = .ok (.aload_n 0, 1) := by decide +kernel
theorem dX7_plucks_202 : decode cX7_plucks 202 = .ok (.getfield 7, 3) := by decide +kernel
theorem dX7_plucks_205 : decode cX7_plucks 205 = .ok (.iload_n 1, 1) := by decide +kernel
theorem dX7_plucks_206 : decode cX7_plucks 206 = .ok (.iconst 5, 1) := by decide +kernel
theorem dX7_plucks_207 : decode cX7_plucks 207 = .ok (.iadd, 1) := by decide +kernel
theorem dX7_plucks_208 : decode cX7_plucks 208 = .ok (.dup2, 1) := by decide +kernel
theorem dX7_plucks_209 : decode cX7_plucks 209 = .ok (.iaload, 1) := by decide +kernel
theorem dX7_plucks_210 : decode cX7_plucks 210 = .ok (.iload_n 3, 1) := by decide +kernel
theorem dX7_plucks_211 : decode cX7_plucks 211 = .ok (.iconst 5, 1) := by decide +kernel
theorem dX7_plucks_212 : decode cX7_plucks 212 = .ok (.if_icmp .ne 24, 3) := by decide +kernel
theorem dX7_plucks_215 : decode cX7_plucks 215 = .ok (.aload_n 0, 1) := by decide +kernel
theorem dX7_plucks_216 : decode cX7_plucks 216 = .ok (.getfield 7, 3) := by decide +kernel
theorem dX7_plucks_219 : decode cX7_plucks 219 = .ok (.iload_n 1, 1) := by decide +kernel
theorem dX7_plucks_220 : decode cX7_plucks 220 = .ok (.bipush 24, 2) := by decide +kernel
theorem dX7_plucks_222 : decode cX7_plucks 222 = .ok (.iadd, 1) := by decide +kernel
theorem dX7_plucks_223 : decode cX7_plucks 223 = .ok (.iload_n 2, 1) := by decide +kernel
theorem dX7_plucks_224 : decode cX7_plucks 224 = .ok (.iadd, 1) := by decide +kernel
theorem dX7_plucks_225 : decode cX7_plucks 225 = .ok (.iaload, 1) := by decide +kernel
theorem dX7_plucks_226 : decode cX7_plucks 226 = .ok (.iconst 3, 1) := by decide +kernel
theorem dX7_plucks_227 : decode cX7_plucks 227 = .ok (.if_icmp .lt 9, 3) := by decide +kernel
theorem dX7_plucks_230 : decode cX7_plucks 230 = .ok (.iconst 1, 1) := by decide +kernel
theorem dX7_plucks_231 : decode cX7_plucks 231 = .ok (.iload_n 2, 1) := by decide +kernel
theorem dX7_plucks_232 : decode cX7_plucks 232 = .ok (.ishl, 1) := by decide +kernel
theorem dX7_plucks_233 : decode cX7_plucks 233 = .ok (.goto 4, 3) := by decide +kernel
theorem dX7_plucks_236 : decode cX7_plucks 236 = .ok (.iconst 0, 1) := by decide +kernel
theorem dX7_plucks_237 : decode cX7_plucks 237 = .ok (.ior, 1) := by decide +kernel
theorem dX7_plucks_238 : decode cX7_plucks 238 = .ok (.iastore, 1) := by decide +kernel
theorem dX7_plucks_239 : decode cX7_plucks 239 = .ok (.return_, 1) := by decide +kernel
theorem dX7_passes_0 : decode cX7_passes 0 = .ok (.aload_n 0, 1) := by decide +kernel
theorem dX7_passes_1 : decode cX7_passes 1 = .ok (.iload_n 1, 1) := by decide +kernel
theorem dX7_passes_2 : decode cX7_passes 2 = .ok (.invokevirtual 130, 3) := by decide +kernel
theorem dX7_passes_5 : decode cX7_passes 5 = .ok (.aload_n 0, 1) := by decide +kernel
theorem dX7_passes_6 : decode cX7_passes 6 = .ok (.getfield 7, 3) := by decide +kernel
theorem dX7_passes_9 : decode cX7_passes 9 = .ok (.iload_n 1, 1) := by decide +kernel
theorem dX7_passes_10 : decode cX7_passes 10 = .ok (.iconst 2, 1) := by decide +kernel
theorem dX7_passes_11 : decode cX7_passes 11 = .ok (.iadd, 1) := by decide +kernel
theorem dX7_passes_12 : decode cX7_passes 12 = .ok (.iaload, 1) := by decide +kernel
theorem dX7_passes_13 : decode cX7_passes 13 = .ok (.ifCond .le 119, 3) := by decide +kernel
theorem dX7_passes_16 : decode cX7_passes 16 = .ok (.aload_n 0, 1) := by decide +kernel
theorem dX7_passes_17 : decode cX7_passes 17 = .ok (.getfield 7, 3) := by decide +kernel
theorem dX7_passes_20 : decode cX7_passes 20 = .ok (.iload_n 1, 1) := by decide +kernel
theorem dX7_passes_21 : decode cX7_passes 21 = .ok (.iconst 3, 1) := by decide +kernel
theorem dX7_passes_22 : decode cX7_passes 22 = .ok (.iadd, 1) := by decide +kernel
theorem dX7_passes_23 : decode cX7_passes 23 = .ok (.aload_n 0, 1) := by decide +kernel
theorem dX7_passes_24 : decode cX7_passes 24 = .ok (.getfield 7, 3) := by decide +kernel
theorem dX7_passes_27 : decode cX7_passes 27 = .ok (.iload_n 1, 1) := by decide +kernel
theorem dX7_passes_28 : decode cX7_passes 28 = .ok (.iconst 3, 1) := by decide +kernel
theorem dX7_passes_29 : decode cX7_passes 29 = .ok (.iadd, 1) := by decide +kernel
theorem dX7_passes_30 : decode cX7_passes 30 = .ok (.iaload, 1) := by decide +kernel
theorem dX7_passes_31 : decode cX7_passes 31 = .ok (.iconst 1, 1) := by decide +kernel
theorem dX7_passes_32 : decode cX7_passes 32 = .ok (.iadd, 1) := by decide +kernel
theorem dX7_passes_33 : decode cX7_passes 33 = .ok (.aload_n 0, 1) := by decide +kernel
theorem dX7_passes_34 : decode cX7_passes 34 = .ok (.getfield 7, 3) := by decide +kernel
theorem dX7_passes_37 : decode cX7_passes 37 = .ok (.iload_n 1, 1) := by decide +kernel
theorem dX7_passes_38 : decode cX7_passes 38 = .ok (.iconst 1, 1) := by decide +kernel
theorem dX7_passes_39 : decode cX7_passes 39 = .ok (.iadd, 1) := by decide +kernel
theorem dX7_passes_40 : decode cX7_passes 40 = .ok (.iaload, 1) := by decide +kernel
theorem dX7_passes_41 : decode cX7_passes 41 = .ok (.irem, 1) := by decide +kernel
theorem dX7_passes_42 : decode cX7_passes 42 = .ok (.iastore, 1) := by decide +kernel
theorem dX7_passes_43 : decode cX7_passes 43 = .ok (.aload_n 0, 1) := by decide +kernel
theorem dX7_passes_44 : decode cX7_passes 44 = .ok (.getfield 7, 3) := by decide +kernel
theorem dX7_passes_47 : decode cX7_passes 47 = .ok (.iload_n 1, 1) := by decide +kernel
theorem dX7_passes_48 : decode cX7_passes 48 = .ok (.iconst 2, 1) := by decide +kernel
theorem dX7_passes_49 : decode cX7_passes 49 = .ok (.iadd, 1) := by decide +kernel
theorem dX7_passes_50 : decode cX7_passes 50 = .ok (.dup2, 1) := by decide +kernel
theorem dX7_passes_51 : decode cX7_passes 51 = .ok (.iaload, 1) := by decide +kernel
theorem dX7_passes_52 : decode cX7_passes 52 = .ok (.iconst 1, 1) := by decide +kernel
theorem dX7_passes_53 : decode cX7_passes 53 = .ok (.isub, 1) := by decide +kernel
theorem dX7_passes_54 : decode cX7_passes 54 = .ok (.iastore, 1) := by decide +kernel
theorem dX7_passes_55 : decode cX7_passes 55 = .ok (.iconst 0, 1) := by decide +kernel
theorem dX7_passes_56 : decode cX7_passes 56 = .ok (.istore_n 2, 1) := by decide +kernel
theorem dX7_passes_57 : decode cX7_passes 57 = .ok (.iload_n 2, 1) := by decide +kernel
theorem dX7_passes_58 : decode cX7_passes 58 = .ok (.aload_n 0, 1) := by decide +kernel
theorem dX7_passes_59 : decode cX7_passes 59 = .ok (.getfield 7, 3) := by decide +kernel
theorem dX7_passes_62 : decode cX7_passes 62 = .ok (.iload_n 1, 1) := by decide +kernel
theorem dX7_passes_63 : decode cX7_passes 63 = .ok (.iconst 0, 1) := by decide +kernel
theorem dX7_passes_64 : decode cX7_passes 64 = .ok (.iadd, 1) := by decide +kernel
theorem dX7_passes_65 : decode cX7_passes 65 = .ok (.iaload, 1) := by decide +kernel
theorem dX7_passes_66 : decode cX7_passes 66 = .ok (.if_icmp .ge 66, 3) := by decide +kernel
theorem dX7_passes_69 : decode cX7_passes 69 = .ok (.aload_n 0, 1) := by decide +kernel
theorem dX7_passes_70 : decode cX7_passes 70 = .ok (.getfield 7, 3) := by decide +kernel
theorem dX7_passes_73 : decode cX7_passes 73 = .ok (.iload_n 1, 1) := by decide +kernel
theorem dX7_passes_74 : decode cX7_passes 74 = .ok (.bipush 30, 2) := by decide +kernel
theorem dX7_passes_76 : decode cX7_passes 76 = .ok (.iadd, 1) := by decide +kernel
theorem dX7_passes_77 : decode cX7_passes 77 = .ok (.aload_n 0, 1) := by decide +kernel
theorem dX7_passes_78 : decode cX7_passes 78 = .ok (.getfield 7, 3) := by decide +kernel
theorem dX7_passes_81 : decode cX7_passes 81 = .ok (.iload_n 1, 1) := by decide +kernel
theorem dX7_passes_82 : decode cX7_passes 82 = .ok (.iconst 3, 1) := by decide +kernel
theorem dX7_passes_83 : decode cX7_passes 83 = .ok (.iadd, 1) := by decide +kernel
theorem dX7_passes_84 : decode cX7_passes 84 = .ok (.iaload, 1) := by decide +kernel
theorem dX7_passes_85 : decode cX7_passes 85 = .ok (.iadd, 1) := by decide +kernel
theorem dX7_passes_86 : decode cX7_passes 86 = .ok (.iaload, 1) := by decide +kernel
theorem dX7_passes_87 : decode cX7_passes 87 = .ok (.iload_n 2, 1) := by decide +kernel
theorem dX7_passes_88 : decode cX7_passes 88 = .ok (.invokestatic 127, 3) := by decide +kernel
theorem dX7_passes_91 : decode cX7_passes 91 = .ok (.ifCond .eq 35, 3) := by decide +kernel
theorem dX7_passes_94 : decode cX7_passes 94 = .ok (.aload_n 0, 1) := by decide +kernel
theorem dX7_passes_95 : decode cX7_passes 95 = .ok (.getfield 7, 3) := by decide +kernel
theorem dX7_passes_98 : decode cX7_passes 98 = .ok (.iload_n 1, 1) := by decide +kernel
theorem dX7_passes_99 : decode cX7_passes 99 = .ok (.iconst 5, 1) := by decide +kernel
theorem dX7_passes_100 : decode cX7_passes 100 = .ok (.iadd, 1) := by decide +kernel
theorem dX7_passes_101 : decode cX7_passes 101 = .ok (.iaload, 1) := by decide +kernel
theorem dX7_passes_102 : decode cX7_passes 102 = .ok (.iload_n 2, 1) := by decide +kernel
theorem dX7_passes_103 : decode cX7_passes 103 = .ok (.invokestatic 127, 3) := by decide +kernel
theorem dX7_passes_106 : decode cX7_passes 106 = .ok (.ifCond .ne 20, 3) := by decide +kernel
theorem dX7_passes_109 : decode cX7_passes 109 = .ok (.aload_n 0, 1) := by decide +kernel
theorem dX7_passes_110 : decode cX7_passes 110 = .ok (.getfield 7, 3) := by decide +kernel
theorem dX7_passes_113 : decode cX7_passes 113 = .ok (.iload_n 1, 1) := by decide +kernel
theorem dX7_passes_114 : decode cX7_passes 114 = .ok (.iconst 2, 1) := by decide +kernel
theorem dX7_passes_115 : decode cX7_passes 115 = .ok (.iadd, 1) := by decide +kernel
theorem dX7_passes_116 : decode cX7_passes 116 = .ok (.iaload, 1) := by decide +kernel
theorem dX7_passes_117 : decode cX7_passes 117 = .ok (.ifCond .le 9, 3) := by decide +kernel
theorem dX7_passes_120 : decode cX7_passes 120 = .ok (.aload_n 0, 1) := by decide +kernel
theorem dX7_passes_121 : decode cX7_passes 121 = .ok (.iload_n 1, 1) := by decide +kernel
theorem dX7_passes_122 : decode cX7_passes 122 = .ok (.iload_n 2, 1) := by decide +kernel
theorem dX7_passes_123 : decode cX7_passes 123 = .ok (.invokevirtual 134, 3) := by decide +kernel
theorem dX7_passes_126 : decode cX7_passes 126 = .ok (.iinc 2 1, 3) := by decide +kernel
theorem dX7_passes_129 : decode cX7_passes 129 = .ok (.goto (-72), 3) := by decide +kernel
theorem dX7_passes_132 : decode cX7_passes 132 = .ok (.aload_n 0, 1) := by decide +kernel
theorem dX7_passes_133 : decode cX7_passes 133 = .ok (.getfield 7, 3) := by decide +kernel
theorem dX7_passes_136 : decode cX7_passes 136 = .ok (.iload_n 1, 1) := by decide +kernel
theorem dX7_passes_137 : decode cX7_passes 137 = .ok (.iconst 4, 1) := by decide +kernel
theorem dX7_passes_138 : decode cX7_passes 138 = .ok (.iadd, 1) := by decide +kernel
theorem dX7_passes_139 : decode cX7_passes 139 = .ok (.dup2, 1) := by decide +kernel
theorem dX7_passes_140 : decode cX7_passes 140 = .ok (.iaload, 1) := by decide +kernel
theorem dX7_passes_141 : decode cX7_passes 141 = .ok (.iconst 1, 1) := by decide +kernel
theorem dX7_passes_142 : decode cX7_passes 142 = .ok (.iadd, 1) := by decide +kernel
theorem dX7_passes_143 : decode cX7_passes 143 = .ok (.iastore, 1) := by decide +kernel
theorem dX7_passes_144 : decode cX7_passes 144 = .ok (.return_, 1) := by decide +kernel
theorem dX7_loud_0 : decode cX7_loud 0 = .ok (.iconst 0, 1) := by decide +kernel
theorem dX7_loud_1 : decode cX7_loud 1 = .ok (.istore_n 2, 1) := by decide +kernel
theorem dX7_loud_2 : decode cX7_loud 2 = .ok (.iconst 0, 1) := by decide +kernel
theorem dX7_loud_3 : decode cX7_loud 3 = .ok (.istore_n 3, 1) := by decide +kernel
theorem dX7_loud_4 : decode cX7_loud 4 = .ok (.iload_n 3, 1) := by decide +kernel
theorem dX7_loud_5 : decode cX7_loud 5 = .ok (.aload_n 0, 1) := by decide +kernel
theorem dX7_loud_6 : decode cX7_loud 6 = .ok (.getfield 7, 3) := by decide +kernel
theorem dX7_loud_9 : decode cX7_loud 9 = .ok (.iload_n 1, 1) := by decide +kernel
theorem dX7_loud_10 : decode cX7_loud 10 = .ok (.iconst 0, 1) := by decide +kernel
theorem dX7_loud_11 : decode cX7_loud 11 = .ok (.iadd, 1) := by decide +kernel
theorem dX7_loud_12 : decode cX7_loud 12 = .ok (.iaload, 1) := by decide +kernel
theorem dX7_loud_13 : decode cX7_loud 13 = .ok (.if_icmp .ge 23, 3) := by decide +kernel
theorem dX7_loud_16 : decode cX7_loud 16 = .ok (.iload_n 2, 1) := by decide +kernel
theorem dX7_loud_17 : decode cX7_loud 17 = .ok (.aload_n 0, 1) := by decide +kernel
theorem dX7_loud_18 : decode cX7_loud 18 = .ok (.getfield 7, 3) := by decide +kernel
theorem dX7_loud_21 : decode cX7_loud 21 = .ok (.iload_n 1, 1) := by decide +kernel
theorem dX7_loud_22 : decode cX7_loud 22 = .ok (.bipush 18, 2) := by decide +kernel
theorem dX7_loud_24 : decode cX7_loud 24 = .ok (.iadd, 1) := by decide +kernel
theorem dX7_loud_25 : decode cX7_loud 25 = .ok (.iload_n 3, 1) := by decide +kernel
theorem dX7_loud_26 : decode cX7_loud 26 = .ok (.iadd, 1) := by decide +kernel
theorem dX7_loud_27 : decode cX7_loud 27 = .ok (.iaload, 1) := by decide +kernel
theorem dX7_loud_28 : decode cX7_loud 28 = .ok (.iadd, 1) := by decide +kernel
theorem dX7_loud_29 : decode cX7_loud 29 = .ok (.istore_n 2, 1) := by decide +kernel
theorem dX7_loud_30 : decode cX7_loud 30 = .ok (.iinc 3 1, 3) := by decide +kernel
theorem dX7_loud_33 : decode cX7_loud 33 = .ok (.goto (-29), 3) := by decide +kernel
theorem dX7_loud_36 : decode cX7_loud 36 = .ok (.iload_n 2, 1) := by decide +kernel
theorem dX7_loud_37 : decode cX7_loud 37 = .ok (.ireturn, 1) := by decide +kernel
theorem dX7_ringing_0 : decode cX7_ringing 0 = .ok (.iconst 0, 1) := by decide +kernel
theorem dX7_ringing_1 : decode cX7_ringing 1 = .ok (.istore_n 2, 1) := by decide +kernel
theorem dX7_ringing_2 : decode cX7_ringing 2 = .ok (.iconst 0, 1) := by decide +kernel
theorem dX7_ringing_3 : decode cX7_ringing 3 = .ok (.istore_n 3, 1) := by decide +kernel
theorem dX7_ringing_4 : decode cX7_ringing 4 = .ok (.iload_n 3, 1) := by decide +kernel
theorem dX7_ringing_5 : decode cX7_ringing 5 = .ok (.aload_n 0, 1) := by decide +kernel
theorem dX7_ringing_6 : decode cX7_ringing 6 = .ok (.getfield 7, 3) := by decide +kernel
theorem dX7_ringing_9 : decode cX7_ringing 9 = .ok (.iload_n 1, 1) := by decide +kernel
theorem dX7_ringing_10 : decode cX7_ringing 10 = .ok (.iconst 0, 1) := by decide +kernel
theorem dX7_ringing_11 : decode cX7_ringing 11 = .ok (.iadd, 1) := by decide +kernel
theorem dX7_ringing_12 : decode cX7_ringing 12 = .ok (.iaload, 1) := by decide +kernel
theorem dX7_ringing_13 : decode cX7_ringing 13 = .ok (.if_icmp .ge 33, 3) := by decide +kernel
theorem dX7_ringing_16 : decode cX7_ringing 16 = .ok (.iload_n 2, 1) := by decide +kernel
theorem dX7_ringing_17 : decode cX7_ringing 17 = .ok (.aload_n 0, 1) := by decide +kernel
theorem dX7_ringing_18 : decode cX7_ringing 18 = .ok (.getfield 7, 3) := by decide +kernel
theorem dX7_ringing_21 : decode cX7_ringing 21 = .ok (.iload_n 1, 1) := by decide +kernel
theorem dX7_ringing_22 : decode cX7_ringing 22 = .ok (.bipush 18, 2) := by decide +kernel
theorem dX7_ringing_24 : decode cX7_ringing 24 = .ok (.iadd, 1) := by decide +kernel
theorem dX7_ringing_25 : decode cX7_ringing 25 = .ok (.iload_n 3, 1) := by decide +kernel
theorem dX7_ringing_26 : decode cX7_ringing 26 = .ok (.iadd, 1) := by decide +kernel
theorem dX7_ringing_27 : decode cX7_ringing 27 = .ok (.iaload, 1) := by decide +kernel
theorem dX7_ringing_28 : decode cX7_ringing 28 = .ok (.ifCond .le 9, 3) := by decide +kernel
theorem dX7_ringing_31 : decode cX7_ringing 31 = .ok (.iconst 1, 1) := by decide +kernel
theorem dX7_ringing_32 : decode cX7_ringing 32 = .ok (.iload_n 3, 1) := by decide +kernel
theorem dX7_ringing_33 : decode cX7_ringing 33 = .ok (.ishl, 1) := by decide +kernel
theorem dX7_ringing_34 : decode cX7_ringing 34 = .ok (.goto 4, 3) := by decide +kernel
theorem dX7_ringing_37 : decode cX7_ringing 37 = .ok (.iconst 0, 1) := by decide +kernel
theorem dX7_ringing_38 : decode cX7_ringing 38 = .ok (.ior, 1) := by decide +kernel
theorem dX7_ringing_39 : decode cX7_ringing 39 = .ok (.istore_n 2, 1) := by decide +kernel
theorem dX7_ringing_40 : decode cX7_ringing 40 = .ok (.iinc 3 1, 3) := by decide +kernel
theorem dX7_ringing_43 : decode cX7_ringing 43 = .ok (.goto (-39), 3) := by decide +kernel
theorem dX7_ringing_46 : decode cX7_ringing 46 = .ok (.iload_n 2, 1) := by decide +kernel
theorem dX7_ringing_47 : decode cX7_ringing 47 = .ok (.ireturn, 1) := by decide +kernel
theorem dX7_mends_0 : decode cX7_mends 0 = .ok (.aload_n 0, 1) := by decide +kernel
theorem dX7_mends_1 : decode cX7_mends 1 = .ok (.getfield 7, 3) := by decide +kernel
theorem dX7_mends_4 : decode cX7_mends 4 = .ok (.iload_n 1, 1) := by decide +kernel
theorem dX7_mends_5 : decode cX7_mends 5 = .ok (.iconst 5, 1) := by decide +kernel
theorem dX7_mends_6 : decode cX7_mends 6 = .ok (.iadd, 1) := by decide +kernel
theorem dX7_mends_7 : decode cX7_mends 7 = .ok (.dup2, 1) := by decide +kernel
theorem dX7_mends_8 : decode cX7_mends 8 = .ok (.iaload, 1) := by decide +kernel
theorem dX7_mends_9 : decode cX7_mends 9 = .ok (.iconst 1, 1) := by decide +kernel
theorem dX7_mends_10 : decode cX7_mends 10 = .ok (.iload_n 2, 1) := by decide +kernel
theorem dX7_mends_11 : decode cX7_mends 11 = .ok (.ishl, 1) := by decide +kernel
theorem dX7_mends_12 : decode cX7_mends 12 = .ok (.iconst (-1), 1) := by decide +kernel
theorem dX7_mends_13 : decode cX7_mends 13 = .ok (.ixor, 1) := by decide +kernel
theorem dX7_mends_14 : decode cX7_mends 14 = .ok (.iand, 1) := by decide +kernel
theorem dX7_mends_15 : decode cX7_mends 15 = .ok (.iastore, 1) := by decide +kernel
theorem dX7_mends_16 : decode cX7_mends 16 = .ok (.aload_n 0, 1) := by decide +kernel
theorem dX7_mends_17 : decode cX7_mends 17 = .ok (.getfield 7, 3) := by decide +kernel
theorem dX7_mends_20 : decode cX7_mends 20 = .ok (.iload_n 1, 1) := by decide +kernel
theorem dX7_mends_21 : decode cX7_mends 21 = .ok (.bipush 24, 2) := by decide +kernel
theorem dX7_mends_23 : decode cX7_mends 23 = .ok (.iadd, 1) := by decide +kernel
theorem dX7_mends_24 : decode cX7_mends 24 = .ok (.iload_n 2, 1) := by decide +kernel
theorem dX7_mends_25 : decode cX7_mends 25 = .ok (.iadd, 1) := by decide +kernel
theorem dX7_mends_26 : decode cX7_mends 26 = .ok (.iconst 0, 1) := by decide +kernel
theorem dX7_mends_27 : decode cX7_mends 27 = .ok (.iastore, 1) := by decide +kernel
theorem dX7_mends_28 : decode cX7_mends 28 = .ok (.aload_n 0, 1) := by decide +kernel
theorem dX7_mends_29 : decode cX7_mends 29 = .ok (.getfield 7, 3) := by decide +kernel
theorem dX7_mends_32 : decode cX7_mends 32 = .ok (.iload_n 1, 1) := by decide +kernel
theorem dX7_mends_33 : decode cX7_mends 33 = .ok (.bipush 18, 2) := by decide +kernel
theorem dX7_mends_35 : decode cX7_mends 35 = .ok (.iadd, 1) := by decide +kernel
theorem dX7_mends_36 : decode cX7_mends 36 = .ok (.iload_n 2, 1) := by decide +kernel
theorem dX7_mends_37 : decode cX7_mends 37 = .ok (.iadd, 1) := by decide +kernel
theorem dX7_mends_38 : decode cX7_mends 38 = .ok (.iconst 0, 1) := by decide +kernel
theorem dX7_mends_39 : decode cX7_mends 39 = .ok (.iastore, 1) := by decide +kernel
theorem dX7_mends_40 : decode cX7_mends 40 = .ok (.return_, 1) := by decide +kernel
theorem dX7_minds_0 : decode cX7_minds 0 = .ok (.aload_n 0, 1) := by decide +kernel
theorem dX7_minds_1 : decode cX7_minds 1 = .ok (.getfield 124, 3) := by decide +kernel
theorem dX7_minds_4 : decode cX7_minds 4 = .ok (.bipush 24, 2) := by decide +kernel
theorem dX7_minds_6 : decode cX7_minds 6 = .ok (.if_icmp .ne 51, 3) := by decide +kernel
theorem dX7_minds_9 : decode cX7_minds 9 = .ok (.iconst 0, 1) := by decide +kernel
theorem dX7_minds_10 : decode cX7_minds 10 = .ok (.istore_n 1, 1) := by decide +kernel
theorem dX7_minds_11 : decode cX7_minds 11 = .ok (.iload_n 1, 1) := by decide +kernel
theorem dX7_minds_12 : decode cX7_minds 12 = .ok (.sipush 989, 3) := by decide +kernel
theorem dX7_minds_15 : decode cX7_minds 15 = .ok (.if_icmp .ge 32, 3) := by decide +kernel
theorem dX7_minds_18 : decode cX7_minds 18 = .ok (.aload_n 0, 1) := by decide +kernel
theorem dX7_minds_19 : decode cX7_minds 19 = .ok (.getfield 7, 3) := by decide +kernel
theorem dX7_minds_22 : decode cX7_minds 22 = .ok (.sipush 215, 3) := by decide +kernel
theorem dX7_minds_25 : decode cX7_minds 25 = .ok (.iload_n 1, 1) := by decide +kernel
theorem dX7_minds_26 : decode cX7_minds 26 = .ok (.iadd, 1) := by decide +kernel
theorem dX7_minds_27 : decode cX7_minds 27 = .ok (.aload_n 0, 1) := by decide +kernel
theorem dX7_minds_28 : decode cX7_minds 28 = .ok (.getfield 7, 3) := by decide +kernel
theorem dX7_minds_31 : decode cX7_minds 31 = .ok (.sipush 215, 3) := by decide +kernel
theorem dX7_minds_34 : decode cX7_minds 34 = .ok (.iload_n 1, 1) := by decide +kernel
theorem dX7_minds_35 : decode cX7_minds 35 = .ok (.iadd, 1) := by decide +kernel
theorem dX7_minds_36 : decode cX7_minds 36 = .ok (.bipush 43, 2) := by decide +kernel
theorem dX7_minds_38 : decode cX7_minds 38 = .ok (.iadd, 1) := by decide +kernel
theorem dX7_minds_39 : decode cX7_minds 39 = .ok (.iaload, 1) := by decide +kernel
theorem dX7_minds_40 : decode cX7_minds 40 = .ok (.iastore, 1) := by decide +kernel
theorem dX7_minds_41 : decode cX7_minds 41 = .ok (.iinc 1 1, 3) := by decide +kernel
theorem dX7_minds_44 : decode cX7_minds 44 = .ok (.goto (-33), 3) := by decide +kernel
theorem dX7_minds_47 : decode cX7_minds 47 = .ok (.aload_n 0, 1) := by decide +kernel
theorem dX7_minds_48 : decode cX7_minds 48 = .ok (.dup, 1) := by decide +kernel
theorem dX7_minds_49 : decode cX7_minds 49 = .ok (.getfield 124, 3) := by decide +kernel
theorem dX7_minds_52 : decode cX7_minds 52 = .ok (.iconst 1, 1) := by decide +kernel
theorem dX7_minds_53 : decode cX7_minds 53 = .ok (.isub, 1) := by decide +kernel
theorem dX7_minds_54 : decode cX7_minds 54 = .ok (.putfield 124, 3) := by decide +kernel
theorem dX7_minds_57 : decode cX7_minds 57 = .ok (.aload_n 0, 1) := by decide +kernel
theorem dX7_minds_58 : decode cX7_minds 58 = .ok (.iconst 0, 1) := by decide +kernel
theorem dX7_minds_59 : decode cX7_minds 59 = .ok (.sipush 215, 3) := by decide +kernel
theorem dX7_minds_62 : decode cX7_minds 62 = .ok (.bipush 43, 2) := by decide +kernel
theorem dX7_minds_64 : decode cX7_minds 64 = .ok (.aload_n 0, 1) := by decide +kernel
theorem dX7_minds_65 : decode cX7_minds 65 = .ok (.getfield 124, 3) := by decide +kernel
theorem dX7_minds_68 : decode cX7_minds 68 = .ok (.imul, 1) := by decide +kernel
theorem dX7_minds_69 : decode cX7_minds 69 = .ok (.iadd, 1) := by decide +kernel
theorem dX7_minds_70 : decode cX7_minds 70 = .ok (.invokevirtual 120, 3) := by decide +kernel
theorem dX7_minds_73 : decode cX7_minds 73 = .ok (.aload_n 0, 1) := by decide +kernel
theorem dX7_minds_74 : decode cX7_minds 74 = .ok (.dup, 1) := by decide +kernel
theorem dX7_minds_75 : decode cX7_minds 75 = .ok (.getfield 124, 3) := by decide +kernel
theorem dX7_minds_78 : decode cX7_minds 78 = .ok (.iconst 1, 1) := by decide +kernel
theorem dX7_minds_79 : decode cX7_minds 79 = .ok (.iadd, 1) := by decide +kernel
theorem dX7_minds_80 : decode cX7_minds 80 = .ok (.putfield 124, 3) := by decide +kernel
theorem dX7_minds_83 : decode cX7_minds 83 = .ok (.return_, 1) := by decide +kernel
theorem dX7_undo_0 : decode cX7_undo 0 = .ok (.aload_n 0, 1) := by decide +kernel
theorem dX7_undo_1 : decode cX7_undo 1 = .ok (.getfield 124, 3) := by decide +kernel
theorem dX7_undo_4 : decode cX7_undo 4 = .ok (.ifCond .ne 6, 3) := by decide +kernel
theorem dX7_undo_7 : decode cX7_undo 7 = .ok (.ldc 137, 2) := by decide +kernel
theorem dX7_undo_9 : decode cX7_undo 9 = .ok (.ireturn, 1) := by decide +kernel
theorem dX7_undo_10 : decode cX7_undo 10 = .ok (.aload_n 0, 1) := by decide +kernel
theorem dX7_undo_11 : decode cX7_undo 11 = .ok (.dup, 1) := by decide +kernel
theorem dX7_undo_12 : decode cX7_undo 12 = .ok (.getfield 124, 3) := by decide +kernel
theorem dX7_undo_15 : decode cX7_undo 15 = .ok (.iconst 1, 1) := by decide +kernel
theorem dX7_undo_16 : decode cX7_undo 16 = .ok (.isub, 1) := by decide +kernel
theorem dX7_undo_17 : decode cX7_undo 17 = .ok (.putfield 124, 3) := by decide +kernel
theorem dX7_undo_20 : decode cX7_undo 20 = .ok (.aload_n 0, 1) := by decide +kernel
theorem dX7_undo_21 : decode cX7_undo 21 = .ok (.sipush 215, 3) := by decide +kernel
theorem dX7_undo_24 : decode cX7_undo 24 = .ok (.bipush 43, 2) := by decide +kernel
theorem dX7_undo_26 : decode cX7_undo 26 = .ok (.aload_n 0, 1) := by decide +kernel
theorem dX7_undo_27 : decode cX7_undo 27 = .ok (.getfield 124, 3) := by decide +kernel
theorem dX7_undo_30 : decode cX7_undo 30 = .ok (.imul, 1) := by decide +kernel
theorem dX7_undo_31 : decode cX7_undo 31 = .ok (.iadd, 1) := by decide +kernel
theorem dX7_undo_32 : decode cX7_undo 32 = .ok (.iconst 0, 1) := by decide +kernel
theorem dX7_undo_33 : decode cX7_undo 33 = .ok (.invokevirtual 120, 3) := by decide +kernel
theorem dX7_undo_36 : decode cX7_undo 36 = .ok (.aload_n 0, 1) := by decide +kernel
theorem dX7_undo_37 : decode cX7_undo 37 = .ok (.getfield 124, 3) := by decide +kernel
theorem dX7_undo_40 : decode cX7_undo 40 = .ok (.ireturn, 1) := by decide +kernel
theorem dX7_ticks_0 : decode cX7_ticks 0 = .ok (.aload_n 0, 1) := by decide +kernel
theorem dX7_ticks_1 : decode cX7_ticks 1 = .ok (.invokevirtual 138, 3) := by decide +kernel
theorem dX7_ticks_4 : decode cX7_ticks 4 = .ok (.ifCond .ne 6, 3) := by decide +kernel
theorem dX7_ticks_7 : decode cX7_ticks 7 = .ok (.ldc 137, 2) := by decide +kernel
theorem dX7_ticks_9 : decode cX7_ticks 9 = .ok (.ireturn, 1) := by decide +kernel
theorem dX7_ticks_10 : decode cX7_ticks 10 = .ok (.iload_n 1, 1) := by decide +kernel
theorem dX7_ticks_11 : decode cX7_ticks 11 = .ok (.i2l, 1) := by decide +kernel
theorem dX7_ticks_12 : decode cX7_ticks 12 = .ok (.lconst 1, 1) := by decide +kernel
theorem dX7_ticks_13 : decode cX7_ticks 13 = .ok (.ldc2_w 141, 3) := by decide +kernel
theorem dX7_ticks_16 : decode cX7_ticks 16 = .ok (.invokestatic 41, 3) := by decide +kernel
theorem dX7_ticks_19 : decode cX7_ticks 19 = .ok (.ifCond .ne 6, 3) := by decide +kernel
theorem dX7_ticks_22 : decode cX7_ticks 22 = .ok (.ldc 58, 2) := by decide +kernel
theorem dX7_ticks_24 : decode cX7_ticks 24 = .ok (.ireturn, 1) := by decide +kernel
theorem dX7_ticks_25 : decode cX7_ticks 25 = .ok (.aload_n 0, 1) := by decide +kernel
theorem dX7_ticks_26 : decode cX7_ticks 26 = .ok (.getfield 7, 3) := by decide +kernel
theorem dX7_ticks_29 : decode cX7_ticks 29 = .ok (.iconst 4, 1) := by decide +kernel
theorem dX7_ticks_30 : decode cX7_ticks 30 = .ok (.iaload, 1) := by decide +kernel
theorem dX7_ticks_31 : decode cX7_ticks 31 = .ok (.iload_n 1, 1) := by decide +kernel
theorem dX7_ticks_32 : decode cX7_ticks 32 = .ok (.iadd, 1) := by decide +kernel
theorem dX7_ticks_33 : decode cX7_ticks 33 = .ok (.sipush 999, 3) := by decide +kernel
theorem dX7_ticks_36 : decode cX7_ticks 36 = .ok (.if_icmp .le 6, 3) := by decide +kernel
theorem dX7_ticks_39 : decode cX7_ticks 39 = .ok (.ldc 72, 2) := by decide +kernel
theorem dX7_ticks_41 : decode cX7_ticks 41 = .ok (.ireturn, 1) := by decide +kernel
theorem dX7_ticks_42 : decode cX7_ticks 42 = .ok (.iconst 0, 1) := by decide +kernel
theorem dX7_ticks_43 : decode cX7_ticks 43 = .ok (.istore_n 2, 1) := by decide +kernel
theorem dX7_ticks_44 : decode cX7_ticks 44 = .ok (.iload_n 2, 1) := by decide +kernel
theorem dX7_ticks_45 : decode cX7_ticks 45 = .ok (.iload_n 1, 1) := by decide +kernel
theorem dX7_ticks_46 : decode cX7_ticks 46 = .ok (.if_icmp .ge 18, 3) := by decide +kernel
theorem dX7_ticks_49 : decode cX7_ticks 49 = .ok (.aload_n 0, 1) := by decide +kernel
theorem dX7_ticks_50 : decode cX7_ticks 50 = .ok (.invokevirtual 143, 3) := by decide +kernel
theorem dX7_ticks_53 : decode cX7_ticks 53 = .ok (.aload_n 0, 1) := by decide +kernel
theorem dX7_ticks_54 : decode cX7_ticks 54 = .ok (.iconst 0, 1) := by decide +kernel
theorem dX7_ticks_55 : decode cX7_ticks 55 = .ok (.invokevirtual 146, 3) := by decide +kernel
theorem dX7_ticks_58 : decode cX7_ticks 58 = .ok (.iinc 2 1, 3) := by decide +kernel
theorem dX7_ticks_61 : decode cX7_ticks 61 = .ok (.goto (-17), 3) := by decide +kernel
theorem dX7_ticks_64 : decode cX7_ticks 64 = .ok (.aload_n 0, 1) := by decide +kernel
theorem dX7_ticks_65 : decode cX7_ticks 65 = .ok (.iconst 0, 1) := by decide +kernel
theorem dX7_ticks_66 : decode cX7_ticks 66 = .ok (.invokevirtual 149, 3) := by decide +kernel
theorem dX7_ticks_69 : decode cX7_ticks 69 = .ok (.ireturn, 1) := by decide +kernel
theorem dX7_wind_0 : decode cX7_wind 0 = .ok (.aload_n 0, 1) := by decide +kernel
theorem dX7_wind_1 : decode cX7_wind 1 = .ok (.invokevirtual 138, 3) := by decide +kernel
theorem dX7_wind_4 : decode cX7_wind 4 = .ok (.ifCond .ne 6, 3) := by decide +kernel
theorem dX7_wind_7 : decode cX7_wind 7 = .ok (.ldc 137, 2) := by decide +kernel
theorem dX7_wind_9 : decode cX7_wind 9 = .ok (.ireturn, 1) := by decide +kernel
theorem dX7_wind_10 : decode cX7_wind 10 = .ok (.iload_n 1, 1) := by decide +kernel
theorem dX7_wind_11 : decode cX7_wind 11 = .ok (.i2l, 1) := by decide +kernel
theorem dX7_wind_12 : decode cX7_wind 12 = .ok (.lconst 1, 1) := by decide +kernel
theorem dX7_wind_13 : decode cX7_wind 13 = .ok (.ldc2_w 152, 3) := by decide +kernel
theorem dX7_wind_16 : decode cX7_wind 16 = .ok (.invokestatic 41, 3) := by decide +kernel
theorem dX7_wind_19 : decode cX7_wind 19 = .ok (.ifCond .ne 6, 3) := by decide +kernel
theorem dX7_wind_22 : decode cX7_wind 22 = .ok (.ldc 58, 2) := by decide +kernel
theorem dX7_wind_24 : decode cX7_wind 24 = .ok (.ireturn, 1) := by decide +kernel
theorem dX7_wind_25 : decode cX7_wind 25 = .ok (.aload_n 0, 1) := by decide +kernel
theorem dX7_wind_26 : decode cX7_wind 26 = .ok (.invokevirtual 143, 3) := by decide +kernel
theorem dX7_wind_29 : decode cX7_wind 29 = .ok (.aload_n 0, 1) := by decide +kernel
theorem dX7_wind_30 : decode cX7_wind 30 = .ok (.getfield 7, 3) := by decide +kernel
theorem dX7_wind_33 : decode cX7_wind 33 = .ok (.iconst 2, 1) := by decide +kernel
theorem dX7_wind_34 : decode cX7_wind 34 = .ok (.aload_n 0, 1) := by decide +kernel
theorem dX7_wind_35 : decode cX7_wind 35 = .ok (.getfield 7, 3) := by decide +kernel
theorem dX7_wind_38 : decode cX7_wind 38 = .ok (.iconst 2, 1) := by decide +kernel
theorem dX7_wind_39 : decode cX7_wind 39 = .ok (.iaload, 1) := by decide +kernel
theorem dX7_wind_40 : decode cX7_wind 40 = .ok (.iload_n 1, 1) := by decide +kernel
theorem dX7_wind_41 : decode cX7_wind 41 = .ok (.iadd, 1) := by decide +kernel
theorem dX7_wind_42 : decode cX7_wind 42 = .ok (.bipush 99, 2) := by decide +kernel
theorem dX7_wind_44 : decode cX7_wind 44 = .ok (.if_icmp .le 8, 3) := by decide +kernel
theorem dX7_wind_47 : decode cX7_wind 47 = .ok (.bipush 99, 2) := by decide +kernel
theorem dX7_wind_49 : decode cX7_wind 49 = .ok (.goto 11, 3) := by decide +kernel
theorem dX7_wind_52 : decode cX7_wind 52 = .ok (.aload_n 0, 1) := by decide +kernel
theorem dX7_wind_53 : decode cX7_wind 53 = .ok (.getfield 7, 3) := by decide +kernel
theorem dX7_wind_56 : decode cX7_wind 56 = .ok (.iconst 2, 1) := by decide +kernel
theorem dX7_wind_57 : decode cX7_wind 57 = .ok (.iaload, 1) := by decide +kernel
theorem dX7_wind_58 : decode cX7_wind 58 = .ok (.iload_n 1, 1) := by decide +kernel
theorem dX7_wind_59 : decode cX7_wind 59 = .ok (.iadd, 1) := by decide +kernel
theorem dX7_wind_60 : decode cX7_wind 60 = .ok (.iastore, 1) := by decide +kernel
theorem dX7_wind_61 : decode cX7_wind 61 = .ok (.aload_n 0, 1) := by decide +kernel
theorem dX7_wind_62 : decode cX7_wind 62 = .ok (.getfield 7, 3) := by decide +kernel
theorem dX7_wind_65 : decode cX7_wind 65 = .ok (.iconst 2, 1) := by decide +kernel
theorem dX7_wind_66 : decode cX7_wind 66 = .ok (.iaload, 1) := by decide +kernel
theorem dX7_wind_67 : decode cX7_wind 67 = .ok (.ireturn, 1) := by decide +kernel
theorem dX7_pin_0 : decode cX7_pin 0 = .ok (.aload_n 0, 1) := by decide +kernel
theorem dX7_pin_1 : decode cX7_pin 1 = .ok (.iload_n 1, 1) := by decide +kernel
theorem dX7_pin_2 : decode cX7_pin 2 = .ok (.invokevirtual 154, 3) := by decide +kernel
theorem dX7_pin_5 : decode cX7_pin 5 = .ok (.ifCond .eq 11, 3) := by decide +kernel
theorem dX7_pin_8 : decode cX7_pin 8 = .ok (.aload_n 0, 1) := by decide +kernel
theorem dX7_pin_9 : decode cX7_pin 9 = .ok (.iload_n 2, 1) := by decide +kernel
theorem dX7_pin_10 : decode cX7_pin 10 = .ok (.invokevirtual 157, 3) := by decide +kernel
theorem dX7_pin_13 : decode cX7_pin 13 = .ok (.ifCond .ne 6, 3) := by decide +kernel
theorem dX7_pin_16 : decode cX7_pin 16 = .ok (.ldc 58, 2) := by decide +kernel
theorem dX7_pin_18 : decode cX7_pin 18 = .ok (.ireturn, 1) := by decide +kernel
theorem dX7_pin_19 : decode cX7_pin 19 = .ok (.aload_n 0, 1) := by decide +kernel
theorem dX7_pin_20 : decode cX7_pin 20 = .ok (.invokevirtual 143, 3) := by decide +kernel
theorem dX7_pin_23 : decode cX7_pin 23 = .ok (.aload_n 0, 1) := by decide +kernel
theorem dX7_pin_24 : decode cX7_pin 24 = .ok (.getfield 7, 3) := by decide +kernel
theorem dX7_pin_27 : decode cX7_pin 27 = .ok (.bipush 30, 2) := by decide +kernel
theorem dX7_pin_29 : decode cX7_pin 29 = .ok (.iload_n 1, 1) := by decide +kernel
theorem dX7_pin_30 : decode cX7_pin 30 = .ok (.iadd, 1) := by decide +kernel
theorem dX7_pin_31 : decode cX7_pin 31 = .ok (.dup2, 1) := by decide +kernel
theorem dX7_pin_32 : decode cX7_pin 32 = .ok (.iaload, 1) := by decide +kernel
theorem dX7_pin_33 : decode cX7_pin 33 = .ok (.iconst 1, 1) := by decide +kernel
theorem dX7_pin_34 : decode cX7_pin 34 = .ok (.iload_n 2, 1) := by decide +kernel
theorem dX7_pin_35 : decode cX7_pin 35 = .ok (.ishl, 1) := by decide +kernel
theorem dX7_pin_36 : decode cX7_pin 36 = .ok (.ixor, 1) := by decide +kernel
theorem dX7_pin_37 : decode cX7_pin 37 = .ok (.iastore, 1) := by decide +kernel
theorem dX7_pin_38 : decode cX7_pin 38 = .ok (.aload_n 0, 1) := by decide +kernel
theorem dX7_pin_39 : decode cX7_pin 39 = .ok (.getfield 7, 3) := by decide +kernel
theorem dX7_pin_42 : decode cX7_pin 42 = .ok (.bipush 30, 2) := by decide +kernel
theorem dX7_pin_44 : decode cX7_pin 44 = .ok (.iload_n 1, 1) := by decide +kernel
theorem dX7_pin_45 : decode cX7_pin 45 = .ok (.iadd, 1) := by decide +kernel
theorem dX7_pin_46 : decode cX7_pin 46 = .ok (.iaload, 1) := by decide +kernel
theorem dX7_pin_47 : decode cX7_pin 47 = .ok (.ireturn, 1) := by decide +kernel
theorem dX7_drum_0 : decode cX7_drum 0 = .ok (.aload_n 0, 1) := by decide +kernel
theorem dX7_drum_1 : decode cX7_drum 1 = .ok (.iload_n 1, 1) := by decide +kernel
theorem dX7_drum_2 : decode cX7_drum 2 = .ok (.invokevirtual 154, 3) := by decide +kernel
theorem dX7_drum_5 : decode cX7_drum 5 = .ok (.ifCond .ne 6, 3) := by decide +kernel
theorem dX7_drum_8 : decode cX7_drum 8 = .ok (.ldc 58, 2) := by decide +kernel
theorem dX7_drum_10 : decode cX7_drum 10 = .ok (.ireturn, 1) := by decide +kernel
theorem dX7_drum_11 : decode cX7_drum 11 = .ok (.aload_n 0, 1) := by decide +kernel
theorem dX7_drum_12 : decode cX7_drum 12 = .ok (.getfield 7, 3) := by decide +kernel
theorem dX7_drum_15 : decode cX7_drum 15 = .ok (.iconst 3, 1) := by decide +kernel
theorem dX7_drum_16 : decode cX7_drum 16 = .ok (.iaload, 1) := by decide +kernel
theorem dX7_drum_17 : decode cX7_drum 17 = .ok (.istore_n 2, 1) := by decide +kernel
theorem dX7_drum_18 : decode cX7_drum 18 = .ok (.iload_n 2, 1) := by decide +kernel
theorem dX7_drum_19 : decode cX7_drum 19 = .ok (.iload_n 1, 1) := by decide +kernel
theorem dX7_drum_20 : decode cX7_drum 20 = .ok (.if_icmp .ne 6, 3) := by decide +kernel
theorem dX7_drum_23 : decode cX7_drum 23 = .ok (.ldc 137, 2) := by decide +kernel
theorem dX7_drum_25 : decode cX7_drum 25 = .ok (.ireturn, 1) := by decide +kernel
theorem dX7_drum_26 : decode cX7_drum 26 = .ok (.aload_n 0, 1) := by decide +kernel
theorem dX7_drum_27 : decode cX7_drum 27 = .ok (.invokevirtual 143, 3) := by decide +kernel
theorem dX7_drum_30 : decode cX7_drum 30 = .ok (.aload_n 0, 1) := by decide +kernel
theorem dX7_drum_31 : decode cX7_drum 31 = .ok (.getfield 7, 3) := by decide +kernel
theorem dX7_drum_34 : decode cX7_drum 34 = .ok (.iconst 3, 1) := by decide +kernel
theorem dX7_drum_35 : decode cX7_drum 35 = .ok (.iload_n 1, 1) := by decide +kernel
theorem dX7_drum_36 : decode cX7_drum 36 = .ok (.iastore, 1) := by decide +kernel
theorem dX7_drum_37 : decode cX7_drum 37 = .ok (.iload_n 2, 1) := by decide +kernel
theorem dX7_drum_38 : decode cX7_drum 38 = .ok (.ireturn, 1) := by decide +kernel
theorem dX7_mend_0 : decode cX7_mend 0 = .ok (.aload_n 0, 1) := by decide +kernel
theorem dX7_mend_1 : decode cX7_mend 1 = .ok (.iload_n 1, 1) := by decide +kernel
theorem dX7_mend_2 : decode cX7_mend 2 = .ok (.invokevirtual 157, 3) := by decide +kernel
theorem dX7_mend_5 : decode cX7_mend 5 = .ok (.ifCond .ne 6, 3) := by decide +kernel
theorem dX7_mend_8 : decode cX7_mend 8 = .ok (.ldc 58, 2) := by decide +kernel
theorem dX7_mend_10 : decode cX7_mend 10 = .ok (.ireturn, 1) := by decide +kernel
theorem dX7_mend_11 : decode cX7_mend 11 = .ok (.aload_n 0, 1) := by decide +kernel
theorem dX7_mend_12 : decode cX7_mend 12 = .ok (.getfield 7, 3) := by decide +kernel
theorem dX7_mend_15 : decode cX7_mend 15 = .ok (.iconst 5, 1) := by decide +kernel
theorem dX7_mend_16 : decode cX7_mend 16 = .ok (.iaload, 1) := by decide +kernel
theorem dX7_mend_17 : decode cX7_mend 17 = .ok (.iload_n 1, 1) := by decide +kernel
theorem dX7_mend_18 : decode cX7_mend 18 = .ok (.invokestatic 127, 3) := by decide +kernel
theorem dX7_mend_21 : decode cX7_mend 21 = .ok (.ifCond .ne 6, 3) := by decide +kernel
theorem dX7_mend_24 : decode cX7_mend 24 = .ok (.ldc 137, 2) := by decide +kernel
theorem dX7_mend_26 : decode cX7_mend 26 = .ok (.ireturn, 1) := by decide +kernel
theorem dX7_mend_27 : decode cX7_mend 27 = .ok (.aload_n 0, 1) := by decide +kernel
theorem dX7_mend_28 : decode cX7_mend 28 = .ok (.invokevirtual 143, 3) := by decide +kernel
theorem dX7_mend_31 : decode cX7_mend 31 = .ok (.aload_n 0, 1) := by decide +kernel
theorem dX7_mend_32 : decode cX7_mend 32 = .ok (.getfield 7, 3) := by decide +kernel
theorem dX7_mend_35 : decode cX7_mend 35 = .ok (.bipush 24, 2) := by decide +kernel
theorem dX7_mend_37 : decode cX7_mend 37 = .ok (.iload_n 1, 1) := by decide +kernel
theorem dX7_mend_38 : decode cX7_mend 38 = .ok (.iadd, 1) := by decide +kernel
theorem dX7_mend_39 : decode cX7_mend 39 = .ok (.iaload, 1) := by decide +kernel
theorem dX7_mend_40 : decode cX7_mend 40 = .ok (.istore_n 2, 1) := by decide +kernel
theorem dX7_mend_41 : decode cX7_mend 41 = .ok (.aload_n 0, 1) := by decide +kernel
theorem dX7_mend_42 : decode cX7_mend 42 = .ok (.iconst 0, 1) := by decide +kernel
theorem dX7_mend_43 : decode cX7_mend 43 = .ok (.iload_n 1, 1) := by decide +kernel
theorem dX7_mend_44 : decode cX7_mend 44 = .ok (.invokevirtual 160, 3) := by decide +kernel
theorem dX7_mend_47 : decode cX7_mend 47 = .ok (.iload_n 2, 1) := by decide +kernel
theorem dX7_mend_48 : decode cX7_mend 48 = .ok (.ireturn, 1) := by decide +kernel
theorem dX7_columnsOf_0 : decode cX7_columnsOf 0 = .ok (.iconst 0, 1) := by decide +kernel
theorem dX7_columnsOf_1 : decode cX7_columnsOf 1 = .ok (.istore_n 3, 1) := by decide +kernel
theorem dX7_columnsOf_2 : decode cX7_columnsOf 2 = .ok (.iconst 0, 1) := by decide +kernel
theorem dX7_columnsOf_3 : decode cX7_columnsOf 3 = .ok (.istore 4, 2) := by decide +kernel
theorem dX7_columnsOf_5 : decode cX7_columnsOf 5 = .ok (.iload 4, 2) := by decide +kernel
theorem dX7_columnsOf_7 : decode cX7_columnsOf 7 = .ok (.aload_n 0, 1) := by decide +kernel
theorem dX7_columnsOf_8 : decode cX7_columnsOf 8 = .ok (.getfield 7, 3) := by decide +kernel
theorem dX7_columnsOf_11 : decode cX7_columnsOf 11 = .ok (.iload_n 1, 1) := by decide +kernel
theorem dX7_columnsOf_12 : decode cX7_columnsOf 12 = .ok (.iconst 1, 1) := by decide +kernel
theorem dX7_columnsOf_13 : decode cX7_columnsOf 13 = .ok (.iadd, 1) := by decide +kernel
theorem dX7_columnsOf_14 : decode cX7_columnsOf 14 = .ok (.iaload, 1) := by decide +kernel
theorem dX7_columnsOf_15 : decode cX7_columnsOf 15 = .ok (.if_icmp .ge 39, 3) := by decide +kernel
theorem dX7_columnsOf_18 : decode cX7_columnsOf 18 = .ok (.iload_n 3, 1) := by decide +kernel
theorem dX7_columnsOf_19 : decode cX7_columnsOf 19 = .ok (.aload_n 0, 1) := by decide +kernel
theorem dX7_columnsOf_20 : decode cX7_columnsOf 20 = .ok (.getfield 7, 3) := by decide +kernel
theorem dX7_columnsOf_23 : decode cX7_columnsOf 23 = .ok (.iload_n 1, 1) := by decide +kernel
theorem dX7_columnsOf_24 : decode cX7_columnsOf 24 = .ok (.bipush 30, 2) := by decide +kernel
theorem dX7_columnsOf_26 : decode cX7_columnsOf 26 = .ok (.iadd, 1) := by decide +kernel
theorem dX7_columnsOf_27 : decode cX7_columnsOf 27 = .ok (.iload 4, 2) := by decide +kernel
theorem dX7_columnsOf_29 : decode cX7_columnsOf 29 = .ok (.iadd, 1) := by decide +kernel
theorem dX7_columnsOf_30 : decode cX7_columnsOf 30 = .ok (.iaload, 1) := by decide +kernel
theorem dX7_columnsOf_31 : decode cX7_columnsOf 31 = .ok (.iload_n 2, 1) := by decide +kernel
theorem dX7_columnsOf_32 : decode cX7_columnsOf 32 = .ok (.invokestatic 127, 3) := by decide +kernel
theorem dX7_columnsOf_35 : decode cX7_columnsOf 35 = .ok (.ifCond .eq 10, 3) := by decide +kernel
theorem dX7_columnsOf_38 : decode cX7_columnsOf 38 = .ok (.iconst 1, 1) := by decide +kernel
theorem dX7_columnsOf_39 : decode cX7_columnsOf 39 = .ok (.iload 4, 2) := by decide +kernel
theorem dX7_columnsOf_41 : decode cX7_columnsOf 41 = .ok (.ishl, 1) := by decide +kernel
theorem dX7_columnsOf_42 : decode cX7_columnsOf 42 = .ok (.goto 4, 3) := by decide +kernel
theorem dX7_columnsOf_45 : decode cX7_columnsOf 45 = .ok (.iconst 0, 1) := by decide +kernel
theorem dX7_columnsOf_46 : decode cX7_columnsOf 46 = .ok (.ior, 1) := by decide +kernel
theorem dX7_columnsOf_47 : decode cX7_columnsOf 47 = .ok (.istore_n 3, 1) := by decide +kernel
theorem dX7_columnsOf_48 : decode cX7_columnsOf 48 = .ok (.iinc 4 1, 3) := by decide +kernel
theorem dX7_columnsOf_51 : decode cX7_columnsOf 51 = .ok (.goto (-46), 3) := by decide +kernel
theorem dX7_columnsOf_54 : decode cX7_columnsOf 54 = .ok (.iload_n 3, 1) := by decide +kernel
theorem dX7_columnsOf_55 : decode cX7_columnsOf 55 = .ok (.ireturn, 1) := by decide +kernel
theorem dX7_tooth_0 : decode cX7_tooth 0 = .ok (.aload_n 0, 1) := by decide +kernel
theorem dX7_tooth_1 : decode cX7_tooth 1 = .ok (.iload_n 1, 1) := by decide +kernel
theorem dX7_tooth_2 : decode cX7_tooth 2 = .ok (.invokevirtual 157, 3) := by decide +kernel
theorem dX7_tooth_5 : decode cX7_tooth 5 = .ok (.ifCond .ne 6, 3) := by decide +kernel
theorem dX7_tooth_8 : decode cX7_tooth 8 = .ok (.ldc 58, 2) := by decide +kernel
theorem dX7_tooth_10 : decode cX7_tooth 10 = .ok (.ireturn, 1) := by decide +kernel
theorem dX7_tooth_11 : decode cX7_tooth 11 = .ok (.iload_n 2, 1) := by decide +kernel
theorem dX7_tooth_12 : decode cX7_tooth 12 = .ok (.tableswitch 84 0 4 #[36, 46, 56, 66, 77], 36) := by decide +kernel
theorem dX7_tooth_48 : decode cX7_tooth 48 = .ok (.aload_n 0, 1) := by decide +kernel
theorem dX7_tooth_49 : decode cX7_tooth 49 = .ok (.getfield 7, 3) := by decide +kernel
theorem dX7_tooth_52 : decode cX7_tooth 52 = .ok (.bipush 12, 2) := by decide +kernel
theorem dX7_tooth_54 : decode cX7_tooth 54 = .ok (.iload_n 1, 1) := by decide +kernel
theorem dX7_tooth_55 : decode cX7_tooth 55 = .ok (.iadd, 1) := by decide +kernel
theorem dX7_tooth_56 : decode cX7_tooth 56 = .ok (.iaload, 1) := by decide +kernel
theorem dX7_tooth_57 : decode cX7_tooth 57 = .ok (.ireturn, 1) := by decide +kernel
theorem dX7_tooth_58 : decode cX7_tooth 58 = .ok (.aload_n 0, 1) := by decide +kernel
theorem dX7_tooth_59 : decode cX7_tooth 59 = .ok (.getfield 7, 3) := by decide +kernel
theorem dX7_tooth_62 : decode cX7_tooth 62 = .ok (.bipush 18, 2) := by decide +kernel
theorem dX7_tooth_64 : decode cX7_tooth 64 = .ok (.iload_n 1, 1) := by decide +kernel
theorem dX7_tooth_65 : decode cX7_tooth 65 = .ok (.iadd, 1) := by decide +kernel
theorem dX7_tooth_66 : decode cX7_tooth 66 = .ok (.iaload, 1) := by decide +kernel
theorem dX7_tooth_67 : decode cX7_tooth 67 = .ok (.ireturn, 1) := by decide +kernel
theorem dX7_tooth_68 : decode cX7_tooth 68 = .ok (.aload_n 0, 1) := by decide +kernel
theorem dX7_tooth_69 : decode cX7_tooth 69 = .ok (.getfield 7, 3) := by decide +kernel
theorem dX7_tooth_72 : decode cX7_tooth 72 = .ok (.bipush 24, 2) := by decide +kernel
theorem dX7_tooth_74 : decode cX7_tooth 74 = .ok (.iload_n 1, 1) := by decide +kernel
theorem dX7_tooth_75 : decode cX7_tooth 75 = .ok (.iadd, 1) := by decide +kernel
theorem dX7_tooth_76 : decode cX7_tooth 76 = .ok (.iaload, 1) := by decide +kernel
theorem dX7_tooth_77 : decode cX7_tooth 77 = .ok (.ireturn, 1) := by decide +kernel
theorem dX7_tooth_78 : decode cX7_tooth 78 = .ok (.aload_n 0, 1) := by decide +kernel
theorem dX7_tooth_79 : decode cX7_tooth 79 = .ok (.getfield 7, 3) := by decide +kernel
theorem dX7_tooth_82 : decode cX7_tooth 82 = .ok (.iconst 5, 1) := by decide +kernel
theorem dX7_tooth_83 : decode cX7_tooth 83 = .ok (.iaload, 1) := by decide +kernel
theorem dX7_tooth_84 : decode cX7_tooth 84 = .ok (.iload_n 1, 1) := by decide +kernel
theorem dX7_tooth_85 : decode cX7_tooth 85 = .ok (.ishr, 1) := by decide +kernel
theorem dX7_tooth_86 : decode cX7_tooth 86 = .ok (.iconst 1, 1) := by decide +kernel
theorem dX7_tooth_87 : decode cX7_tooth 87 = .ok (.iand, 1) := by decide +kernel
theorem dX7_tooth_88 : decode cX7_tooth 88 = .ok (.ireturn, 1) := by decide +kernel
theorem dX7_tooth_89 : decode cX7_tooth 89 = .ok (.aload_n 0, 1) := by decide +kernel
theorem dX7_tooth_90 : decode cX7_tooth 90 = .ok (.iconst 0, 1) := by decide +kernel
theorem dX7_tooth_91 : decode cX7_tooth 91 = .ok (.iload_n 1, 1) := by decide +kernel
theorem dX7_tooth_92 : decode cX7_tooth 92 = .ok (.invokevirtual 163, 3) := by decide +kernel
theorem dX7_tooth_95 : decode cX7_tooth 95 = .ok (.ireturn, 1) := by decide +kernel
theorem dX7_tooth_96 : decode cX7_tooth 96 = .ok (.ldc 58, 2) := by decide +kernel
theorem dX7_tooth_98 : decode cX7_tooth 98 = .ok (.ireturn, 1) := by decide +kernel
theorem dX7_pins_0 : decode cX7_pins 0 = .ok (.aload_n 0, 1) := by decide +kernel
theorem dX7_pins_1 : decode cX7_pins 1 = .ok (.iload_n 1, 1) := by decide +kernel
theorem dX7_pins_2 : decode cX7_pins 2 = .ok (.invokevirtual 154, 3) := by decide +kernel
theorem dX7_pins_5 : decode cX7_pins 5 = .ok (.ifCond .eq 15, 3) := by decide +kernel
theorem dX7_pins_8 : decode cX7_pins 8 = .ok (.aload_n 0, 1) := by decide +kernel
theorem dX7_pins_9 : decode cX7_pins 9 = .ok (.getfield 7, 3) := by decide +kernel
theorem dX7_pins_12 : decode cX7_pins 12 = .ok (.bipush 30, 2) := by decide +kernel
theorem dX7_pins_14 : decode cX7_pins 14 = .ok (.iload_n 1, 1) := by decide +kernel
theorem dX7_pins_15 : decode cX7_pins 15 = .ok (.iadd, 1) := by decide +kernel
theorem dX7_pins_16 : decode cX7_pins 16 = .ok (.iaload, 1) := by decide +kernel
theorem dX7_pins_17 : decode cX7_pins 17 = .ok (.goto 5, 3) := by decide +kernel
theorem dX7_pins_20 : decode cX7_pins 20 = .ok (.ldc 58, 2) := by decide +kernel
theorem dX7_pins_22 : decode cX7_pins 22 = .ok (.ireturn, 1) := by decide +kernel
theorem dX7_stand_0 : decode cX7_stand 0 = .ok (.aload_n 0, 1) := by decide +kernel
theorem dX7_stand_1 : decode cX7_stand 1 = .ok (.invokevirtual 138, 3) := by decide +kernel
theorem dX7_stand_4 : decode cX7_stand 4 = .ok (.ifCond .ne 6, 3) := by decide +kernel
theorem dX7_stand_7 : decode cX7_stand 7 = .ok (.ldc 137, 2) := by decide +kernel
theorem dX7_stand_9 : decode cX7_stand 9 = .ok (.ireturn, 1) := by decide +kernel
theorem dX7_stand_10 : decode cX7_stand 10 = .ok (.iload_n 1, 1) := by decide +kernel
theorem dX7_stand_11 : decode cX7_stand 11 = .ok (.tableswitch 77 0 5 #[37, 44, 51, 58, 64, 70], 37) := by decide +kernel
theorem dX7_stand_48 : decode cX7_stand 48 = .ok (.aload_n 0, 1) := by decide +kernel
theorem dX7_stand_49 : decode cX7_stand 49 = .ok (.getfield 7, 3) := by decide +kernel
theorem dX7_stand_52 : decode cX7_stand 52 = .ok (.iconst 1, 1) := by decide +kernel
theorem dX7_stand_53 : decode cX7_stand 53 = .ok (.iaload, 1) := by decide +kernel
theorem dX7_stand_54 : decode cX7_stand 54 = .ok (.ireturn, 1) := by decide +kernel
theorem dX7_stand_55 : decode cX7_stand 55 = .ok (.aload_n 0, 1) := by decide +kernel
theorem dX7_stand_56 : decode cX7_stand 56 = .ok (.getfield 7, 3) := by decide +kernel
theorem dX7_stand_59 : decode cX7_stand 59 = .ok (.iconst 3, 1) := by decide +kernel
theorem dX7_stand_60 : decode cX7_stand 60 = .ok (.iaload, 1) := by decide +kernel
theorem dX7_stand_61 : decode cX7_stand 61 = .ok (.ireturn, 1) := by decide +kernel
theorem dX7_stand_62 : decode cX7_stand 62 = .ok (.aload_n 0, 1) := by decide +kernel
theorem dX7_stand_63 : decode cX7_stand 63 = .ok (.getfield 7, 3) := by decide +kernel
theorem dX7_stand_66 : decode cX7_stand 66 = .ok (.iconst 2, 1) := by decide +kernel
theorem dX7_stand_67 : decode cX7_stand 67 = .ok (.iaload, 1) := by decide +kernel
theorem dX7_stand_68 : decode cX7_stand 68 = .ok (.ireturn, 1) := by decide +kernel
theorem dX7_stand_69 : decode cX7_stand 69 = .ok (.aload_n 0, 1) := by decide +kernel
theorem dX7_stand_70 : decode cX7_stand 70 = .ok (.iconst 0, 1) := by decide +kernel
theorem dX7_stand_71 : decode cX7_stand 71 = .ok (.invokevirtual 149, 3) := by decide +kernel
theorem dX7_stand_74 : decode cX7_stand 74 = .ok (.ireturn, 1) := by decide +kernel
theorem dX7_stand_75 : decode cX7_stand 75 = .ok (.aload_n 0, 1) := by decide +kernel
theorem dX7_stand_76 : decode cX7_stand 76 = .ok (.iconst 0, 1) := by decide +kernel
theorem dX7_stand_77 : decode cX7_stand 77 = .ok (.invokevirtual 167, 3) := by decide +kernel
theorem dX7_stand_80 : decode cX7_stand 80 = .ok (.ireturn, 1) := by decide +kernel
theorem dX7_stand_81 : decode cX7_stand 81 = .ok (.aload_n 0, 1) := by decide +kernel
theorem dX7_stand_82 : decode cX7_stand 82 = .ok (.getfield 7, 3) := by decide +kernel
theorem dX7_stand_85 : decode cX7_stand 85 = .ok (.iconst 5, 1) := by decide +kernel
theorem dX7_stand_86 : decode cX7_stand 86 = .ok (.iaload, 1) := by decide +kernel
theorem dX7_stand_87 : decode cX7_stand 87 = .ok (.ireturn, 1) := by decide +kernel
theorem dX7_stand_88 : decode cX7_stand 88 = .ok (.ldc 58, 2) := by decide +kernel
theorem dX7_stand_90 : decode cX7_stand 90 = .ok (.ireturn, 1) := by decide +kernel
theorem dX7_tries_0 : decode cX7_tries 0 = .ok (.aload_n 0, 1) := by decide +kernel
theorem dX7_tries_1 : decode cX7_tries 1 = .ok (.iconst 0, 1) := by decide +kernel
theorem dX7_tries_2 : decode cX7_tries 2 = .ok (.bipush 43, 2) := by decide +kernel
theorem dX7_tries_4 : decode cX7_tries 4 = .ok (.invokevirtual 120, 3) := by decide +kernel
theorem dX7_tries_7 : decode cX7_tries 7 = .ok (.return_, 1) := by decide +kernel
theorem dX7_goesOn_0 : decode cX7_goesOn 0 = .ok (.iconst 0, 1) := by decide +kernel
theorem dX7_goesOn_1 : decode cX7_goesOn 1 = .ok (.istore_n 2, 1) := by decide +kernel
theorem dX7_goesOn_2 : decode cX7_goesOn 2 = .ok (.iload_n 2, 1) := by decide +kernel
theorem dX7_goesOn_3 : decode cX7_goesOn 3 = .ok (.iload_n 1, 1) := by decide +kernel
theorem dX7_goesOn_4 : decode cX7_goesOn 4 = .ok (.if_icmp .ge 15, 3) := by decide +kernel
theorem dX7_goesOn_7 : decode cX7_goesOn 7 = .ok (.aload_n 0, 1) := by decide +kernel
theorem dX7_goesOn_8 : decode cX7_goesOn 8 = .ok (.bipush 43, 2) := by decide +kernel
theorem dX7_goesOn_10 : decode cX7_goesOn 10 = .ok (.invokevirtual 146, 3) := by decide +kernel
theorem dX7_goesOn_13 : decode cX7_goesOn 13 = .ok (.iinc 2 1, 3) := by decide +kernel
theorem dX7_goesOn_16 : decode cX7_goesOn 16 = .ok (.goto (-14), 3) := by decide +kernel
theorem dX7_goesOn_19 : decode cX7_goesOn 19 = .ok (.return_, 1) := by decide +kernel
theorem dX7_sumOf_0 : decode cX7_sumOf 0 = .ok (.iconst 0, 1) := by decide +kernel
theorem dX7_sumOf_1 : decode cX7_sumOf 1 = .ok (.istore_n 2, 1) := by decide +kernel
theorem dX7_sumOf_2 : decode cX7_sumOf 2 = .ok (.iconst 0, 1) := by decide +kernel
theorem dX7_sumOf_3 : decode cX7_sumOf 3 = .ok (.istore_n 3, 1) := by decide +kernel
theorem dX7_sumOf_4 : decode cX7_sumOf 4 = .ok (.iload_n 3, 1) := by decide +kernel
theorem dX7_sumOf_5 : decode cX7_sumOf 5 = .ok (.iload_n 1, 1) := by decide +kernel
theorem dX7_sumOf_6 : decode cX7_sumOf 6 = .ok (.if_icmp .ge 24, 3) := by decide +kernel
theorem dX7_sumOf_9 : decode cX7_sumOf 9 = .ok (.aload_n 0, 1) := by decide +kernel
theorem dX7_sumOf_10 : decode cX7_sumOf 10 = .ok (.bipush 43, 2) := by decide +kernel
theorem dX7_sumOf_12 : decode cX7_sumOf 12 = .ok (.invokevirtual 146, 3) := by decide +kernel
theorem dX7_sumOf_15 : decode cX7_sumOf 15 = .ok (.iload_n 2, 1) := by decide +kernel
theorem dX7_sumOf_16 : decode cX7_sumOf 16 = .ok (.aload_n 0, 1) := by decide +kernel
theorem dX7_sumOf_17 : decode cX7_sumOf 17 = .ok (.bipush 43, 2) := by decide +kernel
theorem dX7_sumOf_19 : decode cX7_sumOf 19 = .ok (.invokevirtual 149, 3) := by decide +kernel
theorem dX7_sumOf_22 : decode cX7_sumOf 22 = .ok (.iadd, 1) := by decide +kernel
theorem dX7_sumOf_23 : decode cX7_sumOf 23 = .ok (.istore_n 2, 1) := by decide +kernel
theorem dX7_sumOf_24 : decode cX7_sumOf 24 = .ok (.iinc 3 1, 3) := by decide +kernel
theorem dX7_sumOf_27 : decode cX7_sumOf 27 = .ok (.goto (-23), 3) := by decide +kernel
theorem dX7_sumOf_30 : decode cX7_sumOf 30 = .ok (.iload_n 2, 1) := by decide +kernel
theorem dX7_sumOf_31 : decode cX7_sumOf 31 = .ok (.ireturn, 1) := by decide +kernel
theorem dX7_ahead_0 : decode cX7_ahead 0 = .ok (.aload_n 0, 1) := by decide +kernel
theorem dX7_ahead_1 : decode cX7_ahead 1 = .ok (.iload_n 1, 1) := by decide +kernel
theorem dX7_ahead_2 : decode cX7_ahead 2 = .ok (.invokevirtual 157, 3) := by decide +kernel
theorem dX7_ahead_5 : decode cX7_ahead 5 = .ok (.ifCond .eq 27, 3) := by decide +kernel
theorem dX7_ahead_8 : decode cX7_ahead 8 = .ok (.iload_n 2, 1) := by decide +kernel
theorem dX7_ahead_9 : decode cX7_ahead 9 = .ok (.i2l, 1) := by decide +kernel
theorem dX7_ahead_10 : decode cX7_ahead 10 = .ok (.lconst 0, 1) := by decide +kernel
theorem dX7_ahead_11 : decode cX7_ahead 11 = .ok (.ldc2_w 170, 3) := by decide +kernel
theorem dX7_ahead_14 : decode cX7_ahead 14 = .ok (.invokestatic 41, 3) := by decide +kernel
theorem dX7_ahead_17 : decode cX7_ahead 17 = .ok (.ifCond .eq 15, 3) := by decide +kernel
theorem dX7_ahead_20 : decode cX7_ahead 20 = .ok (.iload_n 3, 1) := by decide +kernel
theorem dX7_ahead_21 : decode cX7_ahead 21 = .ok (.i2l, 1) := by decide +kernel
theorem dX7_ahead_22 : decode cX7_ahead 22 = .ok (.lconst 0, 1) := by decide +kernel
theorem dX7_ahead_23 : decode cX7_ahead 23 = .ok (.ldc2_w 56, 3) := by decide +kernel
theorem dX7_ahead_26 : decode cX7_ahead 26 = .ok (.invokestatic 41, 3) := by decide +kernel
theorem dX7_ahead_29 : decode cX7_ahead 29 = .ok (.ifCond .ne 6, 3) := by decide +kernel
theorem dX7_ahead_32 : decode cX7_ahead 32 = .ok (.ldc 58, 2) := by decide +kernel
theorem dX7_ahead_34 : decode cX7_ahead 34 = .ok (.ireturn, 1) := by decide +kernel
theorem dX7_ahead_35 : decode cX7_ahead 35 = .ok (.aload_n 0, 1) := by decide +kernel
theorem dX7_ahead_36 : decode cX7_ahead 36 = .ok (.invokevirtual 172, 3) := by decide +kernel
theorem dX7_ahead_39 : decode cX7_ahead 39 = .ok (.aload_n 0, 1) := by decide +kernel
theorem dX7_ahead_40 : decode cX7_ahead 40 = .ok (.iload_n 2, 1) := by decide +kernel
theorem dX7_ahead_41 : decode cX7_ahead 41 = .ok (.invokevirtual 175, 3) := by decide +kernel
theorem dX7_ahead_44 : decode cX7_ahead 44 = .ok (.iload_n 3, 1) := by decide +kernel
theorem dX7_ahead_45 : decode cX7_ahead 45 = .ok (.ifCond .ne 15, 3) := by decide +kernel
theorem dX7_ahead_48 : decode cX7_ahead 48 = .ok (.aload_n 0, 1) := by decide +kernel
theorem dX7_ahead_49 : decode cX7_ahead 49 = .ok (.getfield 7, 3) := by decide +kernel
theorem dX7_ahead_52 : decode cX7_ahead 52 = .ok (.bipush 61, 2) := by decide +kernel
theorem dX7_ahead_54 : decode cX7_ahead 54 = .ok (.iload_n 1, 1) := by decide +kernel
theorem dX7_ahead_55 : decode cX7_ahead 55 = .ok (.iadd, 1) := by decide +kernel
theorem dX7_ahead_56 : decode cX7_ahead 56 = .ok (.iaload, 1) := by decide +kernel
theorem dX7_ahead_57 : decode cX7_ahead 57 = .ok (.goto 31, 3) := by decide +kernel
theorem dX7_ahead_60 : decode cX7_ahead 60 = .ok (.iload_n 3, 1) := by decide +kernel
theorem dX7_ahead_61 : decode cX7_ahead 61 = .ok (.iconst 1, 1) := by decide +kernel
theorem dX7_ahead_62 : decode cX7_ahead 62 = .ok (.if_icmp .ne 15, 3) := by decide +kernel
theorem dX7_ahead_65 : decode cX7_ahead 65 = .ok (.aload_n 0, 1) := by decide +kernel
theorem dX7_ahead_66 : decode cX7_ahead 66 = .ok (.getfield 7, 3) := by decide +kernel
theorem dX7_ahead_69 : decode cX7_ahead 69 = .ok (.bipush 67, 2) := by decide +kernel
theorem dX7_ahead_71 : decode cX7_ahead 71 = .ok (.iload_n 1, 1) := by decide +kernel
theorem dX7_ahead_72 : decode cX7_ahead 72 = .ok (.iadd, 1) := by decide +kernel
theorem dX7_ahead_73 : decode cX7_ahead 73 = .ok (.iaload, 1) := by decide +kernel
theorem dX7_ahead_74 : decode cX7_ahead 74 = .ok (.goto 14, 3) := by decide +kernel
theorem dX7_ahead_77 : decode cX7_ahead 77 = .ok (.aload_n 0, 1) := by decide +kernel
theorem dX7_ahead_78 : decode cX7_ahead 78 = .ok (.getfield 7, 3) := by decide +kernel
theorem dX7_ahead_81 : decode cX7_ahead 81 = .ok (.bipush 48, 2) := by decide +kernel
theorem dX7_ahead_83 : decode cX7_ahead 83 = .ok (.iaload, 1) := by decide +kernel
theorem dX7_ahead_84 : decode cX7_ahead 84 = .ok (.iload_n 1, 1) := by decide +kernel
theorem dX7_ahead_85 : decode cX7_ahead 85 = .ok (.ishr, 1) := by decide +kernel
theorem dX7_ahead_86 : decode cX7_ahead 86 = .ok (.iconst 1, 1) := by decide +kernel
theorem dX7_ahead_87 : decode cX7_ahead 87 = .ok (.iand, 1) := by decide +kernel
theorem dX7_ahead_88 : decode cX7_ahead 88 = .ok (.ireturn, 1) := by decide +kernel
theorem dX7_heard_0 : decode cX7_heard 0 = .ok (.aload_n 0, 1) := by decide +kernel
theorem dX7_heard_1 : decode cX7_heard 1 = .ok (.invokevirtual 138, 3) := by decide +kernel
theorem dX7_heard_4 : decode cX7_heard 4 = .ok (.ifCond .ne 6, 3) := by decide +kernel
theorem dX7_heard_7 : decode cX7_heard 7 = .ok (.ldc 137, 2) := by decide +kernel
theorem dX7_heard_9 : decode cX7_heard 9 = .ok (.ireturn, 1) := by decide +kernel
theorem dX7_heard_10 : decode cX7_heard 10 = .ok (.iload_n 1, 1) := by decide +kernel
theorem dX7_heard_11 : decode cX7_heard 11 = .ok (.i2l, 1) := by decide +kernel
theorem dX7_heard_12 : decode cX7_heard 12 = .ok (.lconst 0, 1) := by decide +kernel
theorem dX7_heard_13 : decode cX7_heard 13 = .ok (.ldc2_w 170, 3) := by decide +kernel
theorem dX7_heard_16 : decode cX7_heard 16 = .ok (.invokestatic 41, 3) := by decide +kernel
theorem dX7_heard_19 : decode cX7_heard 19 = .ok (.ifCond .eq 15, 3) := by decide +kernel
theorem dX7_heard_22 : decode cX7_heard 22 = .ok (.iload_n 2, 1) := by decide +kernel
theorem dX7_heard_23 : decode cX7_heard 23 = .ok (.i2l, 1) := by decide +kernel
theorem dX7_heard_24 : decode cX7_heard 24 = .ok (.lconst 0, 1) := by decide +kernel
theorem dX7_heard_25 : decode cX7_heard 25 = .ok (.ldc2_w 178, 3) := by decide +kernel
theorem dX7_heard_28 : decode cX7_heard 28 = .ok (.invokestatic 41, 3) := by decide +kernel
theorem dX7_heard_31 : decode cX7_heard 31 = .ok (.ifCond .ne 6, 3) := by decide +kernel
theorem dX7_heard_34 : decode cX7_heard 34 = .ok (.ldc 58, 2) := by decide +kernel
theorem dX7_heard_36 : decode cX7_heard 36 = .ok (.ireturn, 1) := by decide +kernel
theorem dX7_heard_37 : decode cX7_heard 37 = .ok (.aload_n 0, 1) := by decide +kernel
theorem dX7_heard_38 : decode cX7_heard 38 = .ok (.invokevirtual 172, 3) := by decide +kernel
theorem dX7_heard_41 : decode cX7_heard 41 = .ok (.aload_n 0, 1) := by decide +kernel
theorem dX7_heard_42 : decode cX7_heard 42 = .ok (.iload_n 1, 1) := by decide +kernel
theorem dX7_heard_43 : decode cX7_heard 43 = .ok (.invokevirtual 175, 3) := by decide +kernel
theorem dX7_heard_46 : decode cX7_heard 46 = .ok (.iload_n 2, 1) := by decide +kernel
theorem dX7_heard_47 : decode cX7_heard 47 = .ok (.ifCond .ne 12, 3) := by decide +kernel
theorem dX7_heard_50 : decode cX7_heard 50 = .ok (.aload_n 0, 1) := by decide +kernel
theorem dX7_heard_51 : decode cX7_heard 51 = .ok (.bipush 43, 2) := by decide +kernel
theorem dX7_heard_53 : decode cX7_heard 53 = .ok (.invokevirtual 149, 3) := by decide +kernel
theorem dX7_heard_56 : decode cX7_heard 56 = .ok (.goto 39, 3) := by decide +kernel
theorem dX7_heard_59 : decode cX7_heard 59 = .ok (.iload_n 2, 1) := by decide +kernel
theorem dX7_heard_60 : decode cX7_heard 60 = .ok (.iconst 1, 1) := by decide +kernel
theorem dX7_heard_61 : decode cX7_heard 61 = .ok (.if_icmp .ne 12, 3) := by decide +kernel
theorem dX7_heard_64 : decode cX7_heard 64 = .ok (.aload_n 0, 1) := by decide +kernel
theorem dX7_heard_65 : decode cX7_heard 65 = .ok (.bipush 43, 2) := by decide +kernel
theorem dX7_heard_67 : decode cX7_heard 67 = .ok (.invokevirtual 167, 3) := by decide +kernel
theorem dX7_heard_70 : decode cX7_heard 70 = .ok (.goto 25, 3) := by decide +kernel
theorem dX7_heard_73 : decode cX7_heard 73 = .ok (.iload_n 2, 1) := by decide +kernel
theorem dX7_heard_74 : decode cX7_heard 74 = .ok (.iconst 2, 1) := by decide +kernel
theorem dX7_heard_75 : decode cX7_heard 75 = .ok (.if_icmp .ne 13, 3) := by decide +kernel
theorem dX7_heard_78 : decode cX7_heard 78 = .ok (.aload_n 0, 1) := by decide +kernel
theorem dX7_heard_79 : decode cX7_heard 79 = .ok (.getfield 7, 3) := by decide +kernel
theorem dX7_heard_82 : decode cX7_heard 82 = .ok (.bipush 46, 2) := by decide +kernel
theorem dX7_heard_84 : decode cX7_heard 84 = .ok (.iaload, 1) := by decide +kernel
theorem dX7_heard_85 : decode cX7_heard 85 = .ok (.goto 10, 3) := by decide +kernel
theorem dX7_heard_88 : decode cX7_heard 88 = .ok (.aload_n 0, 1) := by decide +kernel
theorem dX7_heard_89 : decode cX7_heard 89 = .ok (.getfield 7, 3) := by decide +kernel
theorem dX7_heard_92 : decode cX7_heard 92 = .ok (.bipush 45, 2) := by decide +kernel
theorem dX7_heard_94 : decode cX7_heard 94 = .ok (.iaload, 1) := by decide +kernel
theorem dX7_heard_95 : decode cX7_heard 95 = .ok (.ireturn, 1) := by decide +kernel
theorem dX7_when_0 : decode cX7_when 0 = .ok (.aload_n 0, 1) := by decide +kernel
theorem dX7_when_1 : decode cX7_when 1 = .ok (.iload_n 1, 1) := by decide +kernel
theorem dX7_when_2 : decode cX7_when 2 = .ok (.invokevirtual 157, 3) := by decide +kernel
theorem dX7_when_5 : decode cX7_when 5 = .ok (.ifCond .eq 13, 3) := by decide +kernel
theorem dX7_when_8 : decode cX7_when 8 = .ok (.iload_n 2, 1) := by decide +kernel
theorem dX7_when_9 : decode cX7_when 9 = .ok (.i2l, 1) := by decide +kernel
theorem dX7_when_10 : decode cX7_when 10 = .ok (.lconst 0, 1) := by decide +kernel
theorem dX7_when_11 : decode cX7_when 11 = .ok (.lconst 1, 1) := by decide +kernel
theorem dX7_when_12 : decode cX7_when 12 = .ok (.invokestatic 41, 3) := by decide +kernel
theorem dX7_when_15 : decode cX7_when 15 = .ok (.ifCond .ne 6, 3) := by decide +kernel
theorem dX7_when_18 : decode cX7_when 18 = .ok (.ldc 58, 2) := by decide +kernel
theorem dX7_when_20 : decode cX7_when 20 = .ok (.ireturn, 1) := by decide +kernel
theorem dX7_when_21 : decode cX7_when 21 = .ok (.aload_n 0, 1) := by decide +kernel
theorem dX7_when_22 : decode cX7_when 22 = .ok (.invokevirtual 172, 3) := by decide +kernel
theorem dX7_when_25 : decode cX7_when 25 = .ok (.iconst 0, 1) := by decide +kernel
theorem dX7_when_26 : decode cX7_when 26 = .ok (.istore_n 3, 1) := by decide +kernel
theorem dX7_when_27 : decode cX7_when 27 = .ok (.iload_n 3, 1) := by decide +kernel
theorem dX7_when_28 : decode cX7_when 28 = .ok (.bipush 60, 2) := by decide +kernel
theorem dX7_when_30 : decode cX7_when 30 = .ok (.if_icmp .gt 50, 3) := by decide +kernel
theorem dX7_when_33 : decode cX7_when 33 = .ok (.iload_n 2, 1) := by decide +kernel
theorem dX7_when_34 : decode cX7_when 34 = .ok (.ifCond .ne 18, 3) := by decide +kernel
theorem dX7_when_37 : decode cX7_when 37 = .ok (.aload_n 0, 1) := by decide +kernel
theorem dX7_when_38 : decode cX7_when 38 = .ok (.getfield 7, 3) := by decide +kernel
theorem dX7_when_41 : decode cX7_when 41 = .ok (.bipush 61, 2) := by decide +kernel
theorem dX7_when_43 : decode cX7_when 43 = .ok (.iload_n 1, 1) := by decide +kernel
theorem dX7_when_44 : decode cX7_when 44 = .ok (.iadd, 1) := by decide +kernel
theorem dX7_when_45 : decode cX7_when 45 = .ok (.iaload, 1) := by decide +kernel
theorem dX7_when_46 : decode cX7_when 46 = .ok (.ifCond .le 22, 3) := by decide +kernel
theorem dX7_when_49 : decode cX7_when 49 = .ok (.goto 17, 3) := by decide +kernel
theorem dX7_when_52 : decode cX7_when 52 = .ok (.aload_n 0, 1) := by decide +kernel
theorem dX7_when_53 : decode cX7_when 53 = .ok (.getfield 7, 3) := by decide +kernel
theorem dX7_when_56 : decode cX7_when 56 = .ok (.bipush 48, 2) := by decide +kernel
theorem dX7_when_58 : decode cX7_when 58 = .ok (.iaload, 1) := by decide +kernel
theorem dX7_when_59 : decode cX7_when 59 = .ok (.iload_n 1, 1) := by decide +kernel
theorem dX7_when_60 : decode cX7_when 60 = .ok (.invokestatic 127, 3) := by decide +kernel
theorem dX7_when_63 : decode cX7_when 63 = .ok (.ifCond .eq 5, 3) := by decide +kernel
theorem dX7_when_66 : decode cX7_when 66 = .ok (.iload_n 3, 1) := by decide +kernel
theorem dX7_when_67 : decode cX7_when 67 = .ok (.ireturn, 1) := by decide +kernel
theorem dX7_when_68 : decode cX7_when 68 = .ok (.aload_n 0, 1) := by decide +kernel
theorem dX7_when_69 : decode cX7_when 69 = .ok (.bipush 43, 2) := by decide +kernel
theorem dX7_when_71 : decode cX7_when 71 = .ok (.invokevirtual 146, 3) := by decide +kernel
theorem dX7_when_74 : decode cX7_when 74 = .ok (.iinc 3 1, 3) := by decide +kernel
theorem dX7_when_77 : decode cX7_when 77 = .ok (.goto (-50), 3) := by decide +kernel
theorem dX7_when_80 : decode cX7_when 80 = .ok (.ldc 180, 2) := by decide +kernel
theorem dX7_when_82 : decode cX7_when 82 = .ok (.ireturn, 1) := by decide +kernel
theorem dX7_stops_0 : decode cX7_stops 0 = .ok (.aload_n 0, 1) := by decide +kernel
theorem dX7_stops_1 : decode cX7_stops 1 = .ok (.invokevirtual 138, 3) := by decide +kernel
theorem dX7_stops_4 : decode cX7_stops 4 = .ok (.ifCond .ne 6, 3) := by decide +kernel
theorem dX7_stops_7 : decode cX7_stops 7 = .ok (.ldc 137, 2) := by decide +kernel
theorem dX7_stops_9 : decode cX7_stops 9 = .ok (.ireturn, 1) := by decide +kernel
theorem dX7_stops_10 : decode cX7_stops 10 = .ok (.aload_n 0, 1) := by decide +kernel
theorem dX7_stops_11 : decode cX7_stops 11 = .ok (.invokevirtual 172, 3) := by decide +kernel
theorem dX7_stops_14 : decode cX7_stops 14 = .ok (.iconst 0, 1) := by decide +kernel
theorem dX7_stops_15 : decode cX7_stops 15 = .ok (.istore_n 1, 1) := by decide +kernel
theorem dX7_stops_16 : decode cX7_stops 16 = .ok (.iload_n 1, 1) := by decide +kernel
theorem dX7_stops_17 : decode cX7_stops 17 = .ok (.bipush 60, 2) := by decide +kernel
theorem dX7_stops_19 : decode cX7_stops 19 = .ok (.if_icmp .gt 27, 3) := by decide +kernel
theorem dX7_stops_22 : decode cX7_stops 22 = .ok (.aload_n 0, 1) := by decide +kernel
theorem dX7_stops_23 : decode cX7_stops 23 = .ok (.getfield 7, 3) := by decide +kernel
theorem dX7_stops_26 : decode cX7_stops 26 = .ok (.bipush 45, 2) := by decide +kernel
theorem dX7_stops_28 : decode cX7_stops 28 = .ok (.iaload, 1) := by decide +kernel
theorem dX7_stops_29 : decode cX7_stops 29 = .ok (.ifCond .ne 5, 3) := by decide +kernel
theorem dX7_stops_32 : decode cX7_stops 32 = .ok (.iload_n 1, 1) := by decide +kernel
theorem dX7_stops_33 : decode cX7_stops 33 = .ok (.ireturn, 1) := by decide +kernel
theorem dX7_stops_34 : decode cX7_stops 34 = .ok (.aload_n 0, 1) := by decide +kernel
theorem dX7_stops_35 : decode cX7_stops 35 = .ok (.bipush 43, 2) := by decide +kernel
theorem dX7_stops_37 : decode cX7_stops 37 = .ok (.invokevirtual 146, 3) := by decide +kernel
theorem dX7_stops_40 : decode cX7_stops 40 = .ok (.iinc 1 1, 3) := by decide +kernel
theorem dX7_stops_43 : decode cX7_stops 43 = .ok (.goto (-27), 3) := by decide +kernel
theorem dX7_stops_46 : decode cX7_stops 46 = .ok (.ldc 180, 2) := by decide +kernel
theorem dX7_stops_48 : decode cX7_stops 48 = .ok (.ireturn, 1) := by decide +kernel
theorem dX7_bestPin_0 : decode cX7_bestPin 0 = .ok (.aload_n 0, 1) := by decide +kernel
theorem dX7_bestPin_1 : decode cX7_bestPin 1 = .ok (.invokevirtual 138, 3) := by decide +kernel
theorem dX7_bestPin_4 : decode cX7_bestPin 4 = .ok (.ifCond .ne 6, 3) := by decide +kernel
theorem dX7_bestPin_7 : decode cX7_bestPin 7 = .ok (.ldc 137, 2) := by decide +kernel
theorem dX7_bestPin_9 : decode cX7_bestPin 9 = .ok (.ireturn, 1) := by decide +kernel
theorem dX7_bestPin_10 : decode cX7_bestPin 10 = .ok (.iload_n 1, 1) := by decide +kernel
theorem dX7_bestPin_11 : decode cX7_bestPin 11 = .ok (.i2l, 1) := by decide +kernel
theorem dX7_bestPin_12 : decode cX7_bestPin 12 = .ok (.lconst 1, 1) := by decide +kernel
theorem dX7_bestPin_13 : decode cX7_bestPin 13 = .ok (.ldc2_w 181, 3) := by decide +kernel
theorem dX7_bestPin_16 : decode cX7_bestPin 16 = .ok (.invokestatic 41, 3) := by decide +kernel
theorem dX7_bestPin_19 : decode cX7_bestPin 19 = .ok (.ifCond .eq 13, 3) := by decide +kernel
theorem dX7_bestPin_22 : decode cX7_bestPin 22 = .ok (.iload_n 2, 1) := by decide +kernel
theorem dX7_bestPin_23 : decode cX7_bestPin 23 = .ok (.i2l, 1) := by decide +kernel
theorem dX7_bestPin_24 : decode cX7_bestPin 24 = .ok (.lconst 0, 1) := by decide +kernel
theorem dX7_bestPin_25 : decode cX7_bestPin 25 = .ok (.lconst 1, 1) := by decide +kernel
theorem dX7_bestPin_26 : decode cX7_bestPin 26 = .ok (.invokestatic 41, 3) := by decide +kernel
theorem dX7_bestPin_29 : decode cX7_bestPin 29 = .ok (.ifCond .ne 6, 3) := by decide +kernel
theorem dX7_bestPin_32 : decode cX7_bestPin 32 = .ok (.ldc 58, 2) := by decide +kernel
theorem dX7_bestPin_34 : decode cX7_bestPin 34 = .ok (.ireturn, 1) := by decide +kernel
theorem dX7_bestPin_35 : decode cX7_bestPin 35 = .ok (.iconst 0, 1) := by decide +kernel
theorem dX7_bestPin_36 : decode cX7_bestPin 36 = .ok (.istore_n 3, 1) := by decide +kernel
theorem dX7_bestPin_37 : decode cX7_bestPin 37 = .ok (.iconst (-1), 1) := by decide +kernel
theorem dX7_bestPin_38 : decode cX7_bestPin 38 = .ok (.istore 4, 2) := by decide +kernel
theorem dX7_bestPin_40 : decode cX7_bestPin 40 = .ok (.iconst 0, 1) := by decide +kernel
theorem dX7_bestPin_41 : decode cX7_bestPin 41 = .ok (.istore 5, 2) := by decide +kernel
theorem dX7_bestPin_43 : decode cX7_bestPin 43 = .ok (.iload 5, 2) := by decide +kernel
theorem dX7_bestPin_45 : decode cX7_bestPin 45 = .ok (.aload_n 0, 1) := by decide +kernel
theorem dX7_bestPin_46 : decode cX7_bestPin 46 = .ok (.getfield 7, 3) := by decide +kernel
theorem dX7_bestPin_49 : decode cX7_bestPin 49 = .ok (.iconst 1, 1) := by decide +kernel
theorem dX7_bestPin_50 : decode cX7_bestPin 50 = .ok (.iaload, 1) := by decide +kernel
theorem dX7_bestPin_51 : decode cX7_bestPin 51 = .ok (.if_icmp .ge 93, 3) := by decide +kernel
theorem dX7_bestPin_54 : decode cX7_bestPin 54 = .ok (.iconst 0, 1) := by decide +kernel
theorem dX7_bestPin_55 : decode cX7_bestPin 55 = .ok (.istore 6, 2) := by decide +kernel
theorem dX7_bestPin_57 : decode cX7_bestPin 57 = .ok (.iload 6, 2) := by decide +kernel
theorem dX7_bestPin_59 : decode cX7_bestPin 59 = .ok (.aload_n 0, 1) := by decide +kernel
theorem dX7_bestPin_60 : decode cX7_bestPin 60 = .ok (.getfield 7, 3) := by decide +kernel
theorem dX7_bestPin_63 : decode cX7_bestPin 63 = .ok (.iconst 0, 1) := by decide +kernel
theorem dX7_bestPin_64 : decode cX7_bestPin 64 = .ok (.iaload, 1) := by decide +kernel
theorem dX7_bestPin_65 : decode cX7_bestPin 65 = .ok (.if_icmp .ge 73, 3) := by decide +kernel
theorem dX7_bestPin_68 : decode cX7_bestPin 68 = .ok (.aload_n 0, 1) := by decide +kernel
theorem dX7_bestPin_69 : decode cX7_bestPin 69 = .ok (.invokevirtual 172, 3) := by decide +kernel
theorem dX7_bestPin_72 : decode cX7_bestPin 72 = .ok (.aload_n 0, 1) := by decide +kernel
theorem dX7_bestPin_73 : decode cX7_bestPin 73 = .ok (.getfield 7, 3) := by decide +kernel
theorem dX7_bestPin_76 : decode cX7_bestPin 76 = .ok (.bipush 73, 2) := by decide +kernel
theorem dX7_bestPin_78 : decode cX7_bestPin 78 = .ok (.iload 5, 2) := by decide +kernel
theorem dX7_bestPin_80 : decode cX7_bestPin 80 = .ok (.iadd, 1) := by decide +kernel
theorem dX7_bestPin_81 : decode cX7_bestPin 81 = .ok (.dup2, 1) := by decide +kernel
theorem dX7_bestPin_82 : decode cX7_bestPin 82 = .ok (.iaload, 1) := by decide +kernel
theorem dX7_bestPin_83 : decode cX7_bestPin 83 = .ok (.iconst 1, 1) := by decide +kernel
theorem dX7_bestPin_84 : decode cX7_bestPin 84 = .ok (.iload 6, 2) := by decide +kernel
theorem dX7_bestPin_86 : decode cX7_bestPin 86 = .ok (.ishl, 1) := by decide +kernel
theorem dX7_bestPin_87 : decode cX7_bestPin 87 = .ok (.ixor, 1) := by decide +kernel
theorem dX7_bestPin_88 : decode cX7_bestPin 88 = .ok (.iastore, 1) := by decide +kernel
theorem dX7_bestPin_89 : decode cX7_bestPin 89 = .ok (.aload_n 0, 1) := by decide +kernel
theorem dX7_bestPin_90 : decode cX7_bestPin 90 = .ok (.iload_n 1, 1) := by decide +kernel
theorem dX7_bestPin_91 : decode cX7_bestPin 91 = .ok (.invokevirtual 183, 3) := by decide +kernel
theorem dX7_bestPin_94 : decode cX7_bestPin 94 = .ok (.istore 7, 2) := by decide +kernel
theorem dX7_bestPin_96 : decode cX7_bestPin 96 = .ok (.iload 7, 2) := by decide +kernel
theorem dX7_bestPin_98 : decode cX7_bestPin 98 = .ok (.iload 4, 2) := by decide +kernel
theorem dX7_bestPin_100 : decode cX7_bestPin 100 = .ok (.if_icmp .le 14, 3) := by decide +kernel
theorem dX7_bestPin_103 : decode cX7_bestPin 103 = .ok (.bipush 10, 2) := by decide +kernel
theorem dX7_bestPin_105 : decode cX7_bestPin 105 = .ok (.iload 5, 2) := by decide +kernel
theorem dX7_bestPin_107 : decode cX7_bestPin 107 = .ok (.imul, 1) := by decide +kernel
theorem dX7_bestPin_108 : decode cX7_bestPin 108 = .ok (.iload 6, 2) := by decide +kernel
theorem dX7_bestPin_110 : decode cX7_bestPin 110 = .ok (.iadd, 1) := by decide +kernel
theorem dX7_bestPin_111 : decode cX7_bestPin 111 = .ok (.goto 4, 3) := by decide +kernel
theorem dX7_bestPin_114 : decode cX7_bestPin 114 = .ok (.iload_n 3, 1) := by decide +kernel
theorem dX7_bestPin_115 : decode cX7_bestPin 115 = .ok (.istore_n 3, 1) := by decide +kernel
theorem dX7_bestPin_116 : decode cX7_bestPin 116 = .ok (.iload 7, 2) := by decide +kernel
theorem dX7_bestPin_118 : decode cX7_bestPin 118 = .ok (.iload 4, 2) := by decide +kernel
theorem dX7_bestPin_120 : decode cX7_bestPin 120 = .ok (.if_icmp .le 8, 3) := by decide +kernel
theorem dX7_bestPin_123 : decode cX7_bestPin 123 = .ok (.iload 7, 2) := by decide +kernel
theorem dX7_bestPin_125 : decode cX7_bestPin 125 = .ok (.goto 5, 3) := by decide +kernel
theorem dX7_bestPin_128 : decode cX7_bestPin 128 = .ok (.iload 4, 2) := by decide +kernel
theorem dX7_bestPin_130 : decode cX7_bestPin 130 = .ok (.istore 4, 2) := by decide +kernel
theorem dX7_bestPin_132 : decode cX7_bestPin 132 = .ok (.iinc 6 1, 3) := by decide +kernel
theorem dX7_bestPin_135 : decode cX7_bestPin 135 = .ok (.goto (-78), 3) := by decide +kernel
theorem dX7_bestPin_138 : decode cX7_bestPin 138 = .ok (.iinc 5 1, 3) := by decide +kernel
theorem dX7_bestPin_141 : decode cX7_bestPin 141 = .ok (.goto (-98), 3) := by decide +kernel
theorem dX7_bestPin_144 : decode cX7_bestPin 144 = .ok (.iload_n 2, 1) := by decide +kernel
theorem dX7_bestPin_145 : decode cX7_bestPin 145 = .ok (.ifCond .ne 7, 3) := by decide +kernel
theorem dX7_bestPin_148 : decode cX7_bestPin 148 = .ok (.iload_n 3, 1) := by decide +kernel
theorem dX7_bestPin_149 : decode cX7_bestPin 149 = .ok (.goto 5, 3) := by decide +kernel
theorem dX7_bestPin_152 : decode cX7_bestPin 152 = .ok (.iload 4, 2) := by decide +kernel
theorem dX7_bestPin_154 : decode cX7_bestPin 154 = .ok (.ireturn, 1) := by decide +kernel
theorem dX7_begin_0 : decode cX7_begin 0 = .ok (.aload_n 0, 1) := by decide +kernel
theorem dX7_begin_1 : decode cX7_begin 1 = .ok (.invokevirtual 138, 3) := by decide +kernel
theorem dX7_begin_4 : decode cX7_begin 4 = .ok (.ifCond .ne 6, 3) := by decide +kernel
theorem dX7_begin_7 : decode cX7_begin 7 = .ok (.ldc 137, 2) := by decide +kernel
theorem dX7_begin_9 : decode cX7_begin 9 = .ok (.ireturn, 1) := by decide +kernel
theorem dX7_begin_10 : decode cX7_begin 10 = .ok (.iload_n 1, 1) := by decide +kernel
theorem dX7_begin_11 : decode cX7_begin 11 = .ok (.i2l, 1) := by decide +kernel
theorem dX7_begin_12 : decode cX7_begin 12 = .ok (.lconst 1, 1) := by decide +kernel
theorem dX7_begin_13 : decode cX7_begin 13 = .ok (.ldc2_w 186, 3) := by decide +kernel
theorem dX7_begin_16 : decode cX7_begin 16 = .ok (.invokestatic 41, 3) := by decide +kernel
theorem dX7_begin_19 : decode cX7_begin 19 = .ok (.ifCond .eq 13, 3) := by decide +kernel
theorem dX7_begin_22 : decode cX7_begin 22 = .ok (.iload_n 2, 1) := by decide +kernel
theorem dX7_begin_23 : decode cX7_begin 23 = .ok (.i2l, 1) := by decide +kernel
theorem dX7_begin_24 : decode cX7_begin 24 = .ok (.lconst 0, 1) := by decide +kernel
theorem dX7_begin_25 : decode cX7_begin 25 = .ok (.lconst 1, 1) := by decide +kernel
theorem dX7_begin_26 : decode cX7_begin 26 = .ok (.invokestatic 41, 3) := by decide +kernel
theorem dX7_begin_29 : decode cX7_begin 29 = .ok (.ifCond .ne 6, 3) := by decide +kernel
theorem dX7_begin_32 : decode cX7_begin 32 = .ok (.ldc 58, 2) := by decide +kernel
theorem dX7_begin_34 : decode cX7_begin 34 = .ok (.ireturn, 1) := by decide +kernel
theorem dX7_begin_35 : decode cX7_begin 35 = .ok (.iconst 0, 1) := by decide +kernel
theorem dX7_begin_36 : decode cX7_begin 36 = .ok (.istore_n 3, 1) := by decide +kernel
theorem dX7_begin_37 : decode cX7_begin 37 = .ok (.iconst (-1), 1) := by decide +kernel
theorem dX7_begin_38 : decode cX7_begin 38 = .ok (.istore 4, 2) := by decide +kernel
theorem dX7_begin_40 : decode cX7_begin 40 = .ok (.iconst 0, 1) := by decide +kernel
theorem dX7_begin_41 : decode cX7_begin 41 = .ok (.istore 5, 2) := by decide +kernel
theorem dX7_begin_43 : decode cX7_begin 43 = .ok (.iload 5, 2) := by decide +kernel
theorem dX7_begin_45 : decode cX7_begin 45 = .ok (.aload_n 0, 1) := by decide +kernel
theorem dX7_begin_46 : decode cX7_begin 46 = .ok (.getfield 7, 3) := by decide +kernel
theorem dX7_begin_49 : decode cX7_begin 49 = .ok (.iconst 1, 1) := by decide +kernel
theorem dX7_begin_50 : decode cX7_begin 50 = .ok (.iaload, 1) := by decide +kernel
theorem dX7_begin_51 : decode cX7_begin 51 = .ok (.if_icmp .ge 59, 3) := by decide +kernel
theorem dX7_begin_54 : decode cX7_begin 54 = .ok (.aload_n 0, 1) := by decide +kernel
theorem dX7_begin_55 : decode cX7_begin 55 = .ok (.invokevirtual 172, 3) := by decide +kernel
theorem dX7_begin_58 : decode cX7_begin 58 = .ok (.aload_n 0, 1) := by decide +kernel
theorem dX7_begin_59 : decode cX7_begin 59 = .ok (.getfield 7, 3) := by decide +kernel
theorem dX7_begin_62 : decode cX7_begin 62 = .ok (.bipush 46, 2) := by decide +kernel
theorem dX7_begin_64 : decode cX7_begin 64 = .ok (.iload 5, 2) := by decide +kernel
theorem dX7_begin_66 : decode cX7_begin 66 = .ok (.iastore, 1) := by decide +kernel
theorem dX7_begin_67 : decode cX7_begin 67 = .ok (.aload_n 0, 1) := by decide +kernel
theorem dX7_begin_68 : decode cX7_begin 68 = .ok (.iload_n 1, 1) := by decide +kernel
theorem dX7_begin_69 : decode cX7_begin 69 = .ok (.invokevirtual 183, 3) := by decide +kernel
theorem dX7_begin_72 : decode cX7_begin 72 = .ok (.istore 6, 2) := by decide +kernel
theorem dX7_begin_74 : decode cX7_begin 74 = .ok (.iload 6, 2) := by decide +kernel
theorem dX7_begin_76 : decode cX7_begin 76 = .ok (.iload 4, 2) := by decide +kernel
theorem dX7_begin_78 : decode cX7_begin 78 = .ok (.if_icmp .le 8, 3) := by decide +kernel
theorem dX7_begin_81 : decode cX7_begin 81 = .ok (.iload 5, 2) := by decide +kernel
theorem dX7_begin_83 : decode cX7_begin 83 = .ok (.goto 4, 3) := by decide +kernel
theorem dX7_begin_86 : decode cX7_begin 86 = .ok (.iload_n 3, 1) := by decide +kernel
theorem dX7_begin_87 : decode cX7_begin 87 = .ok (.istore_n 3, 1) := by decide +kernel
theorem dX7_begin_88 : decode cX7_begin 88 = .ok (.iload 6, 2) := by decide +kernel
theorem dX7_begin_90 : decode cX7_begin 90 = .ok (.iload 4, 2) := by decide +kernel
theorem dX7_begin_92 : decode cX7_begin 92 = .ok (.if_icmp .le 8, 3) := by decide +kernel
theorem dX7_begin_95 : decode cX7_begin 95 = .ok (.iload 6, 2) := by decide +kernel
theorem dX7_begin_97 : decode cX7_begin 97 = .ok (.goto 5, 3) := by decide +kernel
theorem dX7_begin_100 : decode cX7_begin 100 = .ok (.iload 4, 2) := by decide +kernel
theorem dX7_begin_102 : decode cX7_begin 102 = .ok (.istore 4, 2) := by decide +kernel
theorem dX7_begin_104 : decode cX7_begin 104 = .ok (.iinc 5 1, 3) := by decide +kernel
theorem dX7_begin_107 : decode cX7_begin 107 = .ok (.goto (-64), 3) := by decide +kernel
theorem dX7_begin_110 : decode cX7_begin 110 = .ok (.iload_n 2, 1) := by decide +kernel
theorem dX7_begin_111 : decode cX7_begin 111 = .ok (.ifCond .ne 7, 3) := by decide +kernel
theorem dX7_begin_114 : decode cX7_begin 114 = .ok (.iload_n 3, 1) := by decide +kernel
theorem dX7_begin_115 : decode cX7_begin 115 = .ok (.goto 5, 3) := by decide +kernel
theorem dX7_begin_118 : decode cX7_begin 118 = .ok (.iload 4, 2) := by decide +kernel
theorem dX7_begin_120 : decode cX7_begin 120 = .ok (.ireturn, 1) := by decide +kernel
theorem dX7_least_0 : decode cX7_least 0 = .ok (.aload_n 0, 1) := by decide +kernel
theorem dX7_least_1 : decode cX7_least 1 = .ok (.invokevirtual 138, 3) := by decide +kernel
theorem dX7_least_4 : decode cX7_least 4 = .ok (.ifCond .ne 6, 3) := by decide +kernel
theorem dX7_least_7 : decode cX7_least 7 = .ok (.ldc 137, 2) := by decide +kernel
theorem dX7_least_9 : decode cX7_least 9 = .ok (.ireturn, 1) := by decide +kernel
theorem dX7_least_10 : decode cX7_least 10 = .ok (.iload_n 1, 1) := by decide +kernel
theorem dX7_least_11 : decode cX7_least 11 = .ok (.i2l, 1) := by decide +kernel
theorem dX7_least_12 : decode cX7_least 12 = .ok (.lconst 1, 1) := by decide +kernel
theorem dX7_least_13 : decode cX7_least 13 = .ok (.ldc2_w 186, 3) := by decide +kernel
theorem dX7_least_16 : decode cX7_least 16 = .ok (.invokestatic 41, 3) := by decide +kernel
theorem dX7_least_19 : decode cX7_least 19 = .ok (.ifCond .ne 6, 3) := by decide +kernel
theorem dX7_least_22 : decode cX7_least 22 = .ok (.ldc 58, 2) := by decide +kernel
theorem dX7_least_24 : decode cX7_least 24 = .ok (.ireturn, 1) := by decide +kernel
theorem dX7_least_25 : decode cX7_least 25 = .ok (.iconst 0, 1) := by decide +kernel
theorem dX7_least_26 : decode cX7_least 26 = .ok (.istore_n 2, 1) := by decide +kernel
theorem dX7_least_27 : decode cX7_least 27 = .ok (.iload_n 2, 1) := by decide +kernel
theorem dX7_least_28 : decode cX7_least 28 = .ok (.bipush 99, 2) := by decide +kernel
theorem dX7_least_30 : decode cX7_least 30 = .ok (.if_icmp .gt 38, 3) := by decide +kernel
theorem dX7_least_33 : decode cX7_least 33 = .ok (.aload_n 0, 1) := by decide +kernel
theorem dX7_least_34 : decode cX7_least 34 = .ok (.invokevirtual 172, 3) := by decide +kernel
theorem dX7_least_37 : decode cX7_least 37 = .ok (.aload_n 0, 1) := by decide +kernel
theorem dX7_least_38 : decode cX7_least 38 = .ok (.getfield 7, 3) := by decide +kernel
theorem dX7_least_41 : decode cX7_least 41 = .ok (.bipush 45, 2) := by decide +kernel
theorem dX7_least_43 : decode cX7_least 43 = .ok (.iload_n 2, 1) := by decide +kernel
theorem dX7_least_44 : decode cX7_least 44 = .ok (.iastore, 1) := by decide +kernel
theorem dX7_least_45 : decode cX7_least 45 = .ok (.aload_n 0, 1) := by decide +kernel
theorem dX7_least_46 : decode cX7_least 46 = .ok (.iload_n 1, 1) := by decide +kernel
theorem dX7_least_47 : decode cX7_least 47 = .ok (.invokevirtual 175, 3) := by decide +kernel
theorem dX7_least_50 : decode cX7_least 50 = .ok (.aload_n 0, 1) := by decide +kernel
theorem dX7_least_51 : decode cX7_least 51 = .ok (.getfield 7, 3) := by decide +kernel
theorem dX7_least_54 : decode cX7_least 54 = .ok (.bipush 45, 2) := by decide +kernel
theorem dX7_least_56 : decode cX7_least 56 = .ok (.iaload, 1) := by decide +kernel
theorem dX7_least_57 : decode cX7_least 57 = .ok (.ifCond .le 5, 3) := by decide +kernel
theorem dX7_least_60 : decode cX7_least 60 = .ok (.iload_n 2, 1) := by decide +kernel
theorem dX7_least_61 : decode cX7_least 61 = .ok (.ireturn, 1) := by decide +kernel
theorem dX7_least_62 : decode cX7_least 62 = .ok (.iinc 2 1, 3) := by decide +kernel
theorem dX7_least_65 : decode cX7_least 65 = .ok (.goto (-38), 3) := by decide +kernel
theorem dX7_least_68 : decode cX7_least 68 = .ok (.ldc 180, 2) := by decide +kernel
theorem dX7_least_70 : decode cX7_least 70 = .ok (.ireturn, 1) := by decide +kernel
theorem dX7_tune_0 : decode cX7_tune 0 = .ok (.aload_n 0, 1) := by decide +kernel
theorem dX7_tune_1 : decode cX7_tune 1 = .ok (.invokevirtual 138, 3) := by decide +kernel
theorem dX7_tune_4 : decode cX7_tune 4 = .ok (.ifCond .ne 6, 3) := by decide +kernel
theorem dX7_tune_7 : decode cX7_tune 7 = .ok (.ldc 137, 2) := by decide +kernel
theorem dX7_tune_9 : decode cX7_tune 9 = .ok (.ireturn, 1) := by decide +kernel
theorem dX7_tune_10 : decode cX7_tune 10 = .ok (.iload_n 1, 1) := by decide +kernel
theorem dX7_tune_11 : decode cX7_tune 11 = .ok (.invokestatic 52, 3) := by decide +kernel
theorem dX7_tune_14 : decode cX7_tune 14 = .ok (.ifCond .eq 15, 3) := by decide +kernel
theorem dX7_tune_17 : decode cX7_tune 17 = .ok (.iload_n 3, 1) := by decide +kernel
theorem dX7_tune_18 : decode cX7_tune 18 = .ok (.i2l, 1) := by decide +kernel
theorem dX7_tune_19 : decode cX7_tune 19 = .ok (.lconst 1, 1) := by decide +kernel
theorem dX7_tune_20 : decode cX7_tune 20 = .ok (.ldc2_w 188, 3) := by decide +kernel
theorem dX7_tune_23 : decode cX7_tune 23 = .ok (.invokestatic 41, 3) := by decide +kernel
theorem dX7_tune_26 : decode cX7_tune 26 = .ok (.ifCond .ne 6, 3) := by decide +kernel
theorem dX7_tune_29 : decode cX7_tune 29 = .ok (.ldc 58, 2) := by decide +kernel
theorem dX7_tune_31 : decode cX7_tune 31 = .ok (.ireturn, 1) := by decide +kernel
theorem dX7_tune_32 : decode cX7_tune 32 = .ok (.aload_n 0, 1) := by decide +kernel
theorem dX7_tune_33 : decode cX7_tune 33 = .ok (.iload_n 1, 1) := by decide +kernel
theorem dX7_tune_34 : decode cX7_tune 34 = .ok (.iload_n 2, 1) := by decide +kernel
theorem dX7_tune_35 : decode cX7_tune 35 = .ok (.iload_n 3, 1) := by decide +kernel
theorem dX7_tune_36 : decode cX7_tune 36 = .ok (.invokevirtual 63, 3) := by decide +kernel
theorem dX7_tune_39 : decode cX7_tune 39 = .ok (.istore 4, 2) := by decide +kernel
theorem dX7_tune_41 : decode cX7_tune 41 = .ok (.iload 4, 2) := by decide +kernel
theorem dX7_tune_43 : decode cX7_tune 43 = .ok (.ifCond .le 10, 3) := by decide +kernel
theorem dX7_tune_46 : decode cX7_tune 46 = .ok (.aload_n 0, 1) := by decide +kernel
theorem dX7_tune_47 : decode cX7_tune 47 = .ok (.iload 4, 2) := by decide +kernel
theorem dX7_tune_49 : decode cX7_tune 49 = .ok (.invokevirtual 59, 3) := by decide +kernel
theorem dX7_tune_52 : decode cX7_tune 52 = .ok (.ireturn, 1) := by decide +kernel
theorem dX7_tune_53 : decode cX7_tune 53 = .ok (.aload_n 0, 1) := by decide +kernel
theorem dX7_tune_54 : decode cX7_tune 54 = .ok (.iconst 0, 1) := by decide +kernel
theorem dX7_tune_55 : decode cX7_tune 55 = .ok (.putfield 47, 3) := by decide +kernel
theorem dX7_tune_58 : decode cX7_tune 58 = .ok (.iconst 0, 1) := by decide +kernel
theorem dX7_tune_59 : decode cX7_tune 59 = .ok (.istore 5, 2) := by decide +kernel
theorem dX7_tune_61 : decode cX7_tune 61 = .ok (.iconst 1, 1) := by decide +kernel
theorem dX7_tune_62 : decode cX7_tune 62 = .ok (.aload_n 0, 1) := by decide +kernel
theorem dX7_tune_63 : decode cX7_tune 63 = .ok (.getfield 7, 3) := by decide +kernel
theorem dX7_tune_66 : decode cX7_tune 66 = .ok (.iconst 0, 1) := by decide +kernel
theorem dX7_tune_67 : decode cX7_tune 67 = .ok (.iaload, 1) := by decide +kernel
theorem dX7_tune_68 : decode cX7_tune 68 = .ok (.ishl, 1) := by decide +kernel
theorem dX7_tune_69 : decode cX7_tune 69 = .ok (.iconst 1, 1) := by decide +kernel
theorem dX7_tune_70 : decode cX7_tune 70 = .ok (.isub, 1) := by decide +kernel
theorem dX7_tune_71 : decode cX7_tune 71 = .ok (.istore 6, 2) := by decide +kernel
theorem dX7_tune_73 : decode cX7_tune 73 = .ok (.iconst 0, 1) := by decide +kernel
theorem dX7_tune_74 : decode cX7_tune 74 = .ok (.istore 7, 2) := by decide +kernel
theorem dX7_tune_76 : decode cX7_tune 76 = .ok (.iload 7, 2) := by decide +kernel
theorem dX7_tune_78 : decode cX7_tune 78 = .ok (.aload_n 0, 1) := by decide +kernel
theorem dX7_tune_79 : decode cX7_tune 79 = .ok (.getfield 7, 3) := by decide +kernel
theorem dX7_tune_82 : decode cX7_tune 82 = .ok (.iconst 1, 1) := by decide +kernel
theorem dX7_tune_83 : decode cX7_tune 83 = .ok (.iaload, 1) := by decide +kernel
theorem dX7_tune_84 : decode cX7_tune 84 = .ok (.if_icmp .ge 97, 3) := by decide +kernel
theorem dX7_tune_87 : decode cX7_tune 87 = .ok (.iconst 1, 1) := by decide +kernel
theorem dX7_tune_88 : decode cX7_tune 88 = .ok (.istore 8, 2) := by decide +kernel
theorem dX7_tune_90 : decode cX7_tune 90 = .ok (.iconst 0, 1) := by decide +kernel
theorem dX7_tune_91 : decode cX7_tune 91 = .ok (.istore 9, 2) := by decide +kernel
theorem dX7_tune_93 : decode cX7_tune 93 = .ok (.iload 9, 2) := by decide +kernel
theorem dX7_tune_95 : decode cX7_tune 95 = .ok (.iload_n 3, 1) := by decide +kernel
theorem dX7_tune_96 : decode cX7_tune 96 = .ok (.if_icmp .ge 61, 3) := by decide +kernel
theorem dX7_tune_99 : decode cX7_tune 99 = .ok (.iload 8, 2) := by decide +kernel
theorem dX7_tune_101 : decode cX7_tune 101 = .ok (.ifCond .eq 47, 3) := by decide +kernel
theorem dX7_tune_104 : decode cX7_tune 104 = .ok (.aload_n 0, 1) := by decide +kernel
theorem dX7_tune_105 : decode cX7_tune 105 = .ok (.getfield 22, 3) := by decide +kernel
theorem dX7_tune_108 : decode cX7_tune 108 = .ok (.bipush 40, 2) := by decide +kernel
theorem dX7_tune_110 : decode cX7_tune 110 = .ok (.iload_n 1, 1) := by decide +kernel
theorem dX7_tune_111 : decode cX7_tune 111 = .ok (.imul, 1) := by decide +kernel
theorem dX7_tune_112 : decode cX7_tune 112 = .ok (.iload_n 2, 1) := by decide +kernel
theorem dX7_tune_113 : decode cX7_tune 113 = .ok (.iadd, 1) := by decide +kernel
theorem dX7_tune_114 : decode cX7_tune 114 = .ok (.iload 9, 2) := by decide +kernel
theorem dX7_tune_116 : decode cX7_tune 116 = .ok (.iadd, 1) := by decide +kernel
theorem dX7_tune_117 : decode cX7_tune 117 = .ok (.iaload, 1) := by decide +kernel
theorem dX7_tune_118 : decode cX7_tune 118 = .ok (.aload_n 0, 1) := by decide +kernel
theorem dX7_tune_119 : decode cX7_tune 119 = .ok (.getfield 7, 3) := by decide +kernel
theorem dX7_tune_122 : decode cX7_tune 122 = .ok (.bipush 30, 2) := by decide +kernel
theorem dX7_tune_124 : decode cX7_tune 124 = .ok (.iload 7, 2) := by decide +kernel
theorem dX7_tune_126 : decode cX7_tune 126 = .ok (.iload 9, 2) := by decide +kernel
theorem dX7_tune_128 : decode cX7_tune 128 = .ok (.iadd, 1) := by decide +kernel
theorem dX7_tune_129 : decode cX7_tune 129 = .ok (.aload_n 0, 1) := by decide +kernel
theorem dX7_tune_130 : decode cX7_tune 130 = .ok (.getfield 7, 3) := by decide +kernel
theorem dX7_tune_133 : decode cX7_tune 133 = .ok (.iconst 1, 1) := by decide +kernel
theorem dX7_tune_134 : decode cX7_tune 134 = .ok (.iaload, 1) := by decide +kernel
theorem dX7_tune_135 : decode cX7_tune 135 = .ok (.irem, 1) := by decide +kernel
theorem dX7_tune_136 : decode cX7_tune 136 = .ok (.iadd, 1) := by decide +kernel
theorem dX7_tune_137 : decode cX7_tune 137 = .ok (.iaload, 1) := by decide +kernel
theorem dX7_tune_138 : decode cX7_tune 138 = .ok (.iload 6, 2) := by decide +kernel
theorem dX7_tune_140 : decode cX7_tune 140 = .ok (.iand, 1) := by decide +kernel
theorem dX7_tune_141 : decode cX7_tune 141 = .ok (.if_icmp .ne 7, 3) := by decide +kernel
theorem dX7_tune_144 : decode cX7_tune 144 = .ok (.iconst 1, 1) := by decide +kernel
theorem dX7_tune_145 : decode cX7_tune 145 = .ok (.goto 4, 3) := by decide +kernel
theorem dX7_tune_148 : decode cX7_tune 148 = .ok (.iconst 0, 1) := by decide +kernel
theorem dX7_tune_149 : decode cX7_tune 149 = .ok (.istore 8, 2) := by decide +kernel
theorem dX7_tune_151 : decode cX7_tune 151 = .ok (.iinc 9 1, 3) := by decide +kernel
theorem dX7_tune_154 : decode cX7_tune 154 = .ok (.goto (-61), 3) := by decide +kernel
theorem dX7_tune_157 : decode cX7_tune 157 = .ok (.iload 5, 2) := by decide +kernel
theorem dX7_tune_159 : decode cX7_tune 159 = .ok (.iload 8, 2) := by decide +kernel
theorem dX7_tune_161 : decode cX7_tune 161 = .ok (.ifCond .eq 10, 3) := by decide +kernel
theorem dX7_tune_164 : decode cX7_tune 164 = .ok (.iconst 1, 1) := by decide +kernel
theorem dX7_tune_165 : decode cX7_tune 165 = .ok (.iload 7, 2) := by decide +kernel
theorem dX7_tune_167 : decode cX7_tune 167 = .ok (.ishl, 1) := by decide +kernel
theorem dX7_tune_168 : decode cX7_tune 168 = .ok (.goto 4, 3) := by decide +kernel
theorem dX7_tune_171 : decode cX7_tune 171 = .ok (.iconst 0, 1) := by decide +kernel
theorem dX7_tune_172 : decode cX7_tune 172 = .ok (.ior, 1) := by decide +kernel
theorem dX7_tune_173 : decode cX7_tune 173 = .ok (.istore 5, 2) := by decide +kernel
theorem dX7_tune_175 : decode cX7_tune 175 = .ok (.iinc 7 1, 3) := by decide +kernel
theorem dX7_tune_178 : decode cX7_tune 178 = .ok (.goto (-102), 3) := by decide +kernel
theorem dX7_tune_181 : decode cX7_tune 181 = .ok (.iload 5, 2) := by decide +kernel
theorem dX7_tune_183 : decode cX7_tune 183 = .ok (.ireturn, 1) := by decide +kernel
theorem dX7_sets_0 : decode cX7_sets 0 = .ok (.aload_n 0, 1) := by decide +kernel
theorem dX7_sets_1 : decode cX7_sets 1 = .ok (.invokevirtual 138, 3) := by decide +kernel
theorem dX7_sets_4 : decode cX7_sets 4 = .ok (.ifCond .ne 6, 3) := by decide +kernel
theorem dX7_sets_7 : decode cX7_sets 7 = .ok (.ldc 137, 2) := by decide +kernel
theorem dX7_sets_9 : decode cX7_sets 9 = .ok (.ireturn, 1) := by decide +kernel
theorem dX7_sets_10 : decode cX7_sets 10 = .ok (.iload_n 1, 1) := by decide +kernel
theorem dX7_sets_11 : decode cX7_sets 11 = .ok (.i2l, 1) := by decide +kernel
theorem dX7_sets_12 : decode cX7_sets 12 = .ok (.lconst 0, 1) := by decide +kernel
theorem dX7_sets_13 : decode cX7_sets 13 = .ok (.ldc2_w 152, 3) := by decide +kernel
theorem dX7_sets_16 : decode cX7_sets 16 = .ok (.invokestatic 41, 3) := by decide +kernel
theorem dX7_sets_19 : decode cX7_sets 19 = .ok (.ifCond .eq 15, 3) := by decide +kernel
theorem dX7_sets_22 : decode cX7_sets 22 = .ok (.iload_n 2, 1) := by decide +kernel
theorem dX7_sets_23 : decode cX7_sets 23 = .ok (.i2l, 1) := by decide +kernel
theorem dX7_sets_24 : decode cX7_sets 24 = .ok (.lconst 0, 1) := by decide +kernel
theorem dX7_sets_25 : decode cX7_sets 25 = .ok (.ldc2_w 56, 3) := by decide +kernel
theorem dX7_sets_28 : decode cX7_sets 28 = .ok (.invokestatic 41, 3) := by decide +kernel
theorem dX7_sets_31 : decode cX7_sets 31 = .ok (.ifCond .ne 6, 3) := by decide +kernel
theorem dX7_sets_34 : decode cX7_sets 34 = .ok (.ldc 58, 2) := by decide +kernel
theorem dX7_sets_36 : decode cX7_sets 36 = .ok (.ireturn, 1) := by decide +kernel
theorem dX7_sets_37 : decode cX7_sets 37 = .ok (.iconst 0, 1) := by decide +kernel
theorem dX7_sets_38 : decode cX7_sets 38 = .ok (.istore_n 3, 1) := by decide +kernel
theorem dX7_sets_39 : decode cX7_sets 39 = .ok (.iconst 1, 1) := by decide +kernel
theorem dX7_sets_40 : decode cX7_sets 40 = .ok (.aload_n 0, 1) := by decide +kernel
theorem dX7_sets_41 : decode cX7_sets 41 = .ok (.getfield 7, 3) := by decide +kernel
theorem dX7_sets_44 : decode cX7_sets 44 = .ok (.iconst 0, 1) := by decide +kernel
theorem dX7_sets_45 : decode cX7_sets 45 = .ok (.iaload, 1) := by decide +kernel
theorem dX7_sets_46 : decode cX7_sets 46 = .ok (.ishl, 1) := by decide +kernel
theorem dX7_sets_47 : decode cX7_sets 47 = .ok (.iconst 1, 1) := by decide +kernel
theorem dX7_sets_48 : decode cX7_sets 48 = .ok (.isub, 1) := by decide +kernel
theorem dX7_sets_49 : decode cX7_sets 49 = .ok (.istore 4, 2) := by decide +kernel
theorem dX7_sets_51 : decode cX7_sets 51 = .ok (.iconst 0, 1) := by decide +kernel
theorem dX7_sets_52 : decode cX7_sets 52 = .ok (.istore 5, 2) := by decide +kernel
theorem dX7_sets_54 : decode cX7_sets 54 = .ok (.iconst 0, 1) := by decide +kernel
theorem dX7_sets_55 : decode cX7_sets 55 = .ok (.istore 6, 2) := by decide +kernel
theorem dX7_sets_57 : decode cX7_sets 57 = .ok (.iload 6, 2) := by decide +kernel
theorem dX7_sets_59 : decode cX7_sets 59 = .ok (.iconst 1, 1) := by decide +kernel
theorem dX7_sets_60 : decode cX7_sets 60 = .ok (.aload_n 0, 1) := by decide +kernel
theorem dX7_sets_61 : decode cX7_sets 61 = .ok (.getfield 7, 3) := by decide +kernel
theorem dX7_sets_64 : decode cX7_sets 64 = .ok (.iconst 0, 1) := by decide +kernel
theorem dX7_sets_65 : decode cX7_sets 65 = .ok (.iaload, 1) := by decide +kernel
theorem dX7_sets_66 : decode cX7_sets 66 = .ok (.ishl, 1) := by decide +kernel
theorem dX7_sets_67 : decode cX7_sets 67 = .ok (.if_icmp .ge 97, 3) := by decide +kernel
theorem dX7_sets_70 : decode cX7_sets 70 = .ok (.iconst 0, 1) := by decide +kernel
theorem dX7_sets_71 : decode cX7_sets 71 = .ok (.istore 7, 2) := by decide +kernel
theorem dX7_sets_73 : decode cX7_sets 73 = .ok (.iconst 0, 1) := by decide +kernel
theorem dX7_sets_74 : decode cX7_sets 74 = .ok (.istore 8, 2) := by decide +kernel
theorem dX7_sets_76 : decode cX7_sets 76 = .ok (.iload 8, 2) := by decide +kernel
theorem dX7_sets_78 : decode cX7_sets 78 = .ok (.aload_n 0, 1) := by decide +kernel
theorem dX7_sets_79 : decode cX7_sets 79 = .ok (.getfield 7, 3) := by decide +kernel
theorem dX7_sets_82 : decode cX7_sets 82 = .ok (.iconst 0, 1) := by decide +kernel
theorem dX7_sets_83 : decode cX7_sets 83 = .ok (.iaload, 1) := by decide +kernel
theorem dX7_sets_84 : decode cX7_sets 84 = .ok (.if_icmp .ge 38, 3) := by decide +kernel
theorem dX7_sets_87 : decode cX7_sets 87 = .ok (.iload 7, 2) := by decide +kernel
theorem dX7_sets_89 : decode cX7_sets 89 = .ok (.iload 6, 2) := by decide +kernel
theorem dX7_sets_91 : decode cX7_sets 91 = .ok (.iload 8, 2) := by decide +kernel
theorem dX7_sets_93 : decode cX7_sets 93 = .ok (.invokestatic 127, 3) := by decide +kernel
theorem dX7_sets_96 : decode cX7_sets 96 = .ok (.ifCond .eq 16, 3) := by decide +kernel
theorem dX7_sets_99 : decode cX7_sets 99 = .ok (.aload_n 0, 1) := by decide +kernel
theorem dX7_sets_100 : decode cX7_sets 100 = .ok (.getfield 7, 3) := by decide +kernel
theorem dX7_sets_103 : decode cX7_sets 103 = .ok (.bipush 18, 2) := by decide +kernel
theorem dX7_sets_105 : decode cX7_sets 105 = .ok (.iload 8, 2) := by decide +kernel
theorem dX7_sets_107 : decode cX7_sets 107 = .ok (.iadd, 1) := by decide +kernel
theorem dX7_sets_108 : decode cX7_sets 108 = .ok (.iaload, 1) := by decide +kernel
theorem dX7_sets_109 : decode cX7_sets 109 = .ok (.goto 4, 3) := by decide +kernel
theorem dX7_sets_112 : decode cX7_sets 112 = .ok (.iconst 0, 1) := by decide +kernel
theorem dX7_sets_113 : decode cX7_sets 113 = .ok (.iadd, 1) := by decide +kernel
theorem dX7_sets_114 : decode cX7_sets 114 = .ok (.istore 7, 2) := by decide +kernel
theorem dX7_sets_116 : decode cX7_sets 116 = .ok (.iinc 8 1, 3) := by decide +kernel
theorem dX7_sets_119 : decode cX7_sets 119 = .ok (.goto (-43), 3) := by decide +kernel
theorem dX7_sets_122 : decode cX7_sets 122 = .ok (.iload 7, 2) := by decide +kernel
theorem dX7_sets_124 : decode cX7_sets 124 = .ok (.iload_n 1, 1) := by decide +kernel
theorem dX7_sets_125 : decode cX7_sets 125 = .ok (.if_icmp .ne 33, 3) := by decide +kernel
theorem dX7_sets_128 : decode cX7_sets 128 = .ok (.iload 6, 2) := by decide +kernel
theorem dX7_sets_130 : decode cX7_sets 130 = .ok (.aload_n 0, 1) := by decide +kernel
theorem dX7_sets_131 : decode cX7_sets 131 = .ok (.iconst 0, 1) := by decide +kernel
theorem dX7_sets_132 : decode cX7_sets 132 = .ok (.invokevirtual 167, 3) := by decide +kernel
theorem dX7_sets_135 : decode cX7_sets 135 = .ok (.iconst (-1), 1) := by decide +kernel
theorem dX7_sets_136 : decode cX7_sets 136 = .ok (.ixor, 1) := by decide +kernel
theorem dX7_sets_137 : decode cX7_sets 137 = .ok (.iand, 1) := by decide +kernel
theorem dX7_sets_138 : decode cX7_sets 138 = .ok (.ifCond .ne 20, 3) := by decide +kernel
theorem dX7_sets_141 : decode cX7_sets 141 = .ok (.iinc 3 1, 3) := by decide +kernel
theorem dX7_sets_144 : decode cX7_sets 144 = .ok (.iload 4, 2) := by decide +kernel
theorem dX7_sets_146 : decode cX7_sets 146 = .ok (.iload 6, 2) := by decide +kernel
theorem dX7_sets_148 : decode cX7_sets 148 = .ok (.iand, 1) := by decide +kernel
theorem dX7_sets_149 : decode cX7_sets 149 = .ok (.istore 4, 2) := by decide +kernel
theorem dX7_sets_151 : decode cX7_sets 151 = .ok (.iload 5, 2) := by decide +kernel
theorem dX7_sets_153 : decode cX7_sets 153 = .ok (.iload 6, 2) := by decide +kernel
theorem dX7_sets_155 : decode cX7_sets 155 = .ok (.ior, 1) := by decide +kernel
theorem dX7_sets_156 : decode cX7_sets 156 = .ok (.istore 5, 2) := by decide +kernel
theorem dX7_sets_158 : decode cX7_sets 158 = .ok (.iinc 6 1, 3) := by decide +kernel
theorem dX7_sets_161 : decode cX7_sets 161 = .ok (.goto (-104), 3) := by decide +kernel
theorem dX7_sets_164 : decode cX7_sets 164 = .ok (.iload_n 2, 1) := by decide +kernel
theorem dX7_sets_165 : decode cX7_sets 165 = .ok (.ifCond .ne 7, 3) := by decide +kernel
theorem dX7_sets_168 : decode cX7_sets 168 = .ok (.iload_n 3, 1) := by decide +kernel
theorem dX7_sets_169 : decode cX7_sets 169 = .ok (.goto 23, 3) := by decide +kernel
theorem dX7_sets_172 : decode cX7_sets 172 = .ok (.iload_n 2, 1) := by decide +kernel
theorem dX7_sets_173 : decode cX7_sets 173 = .ok (.iconst 2, 1) := by decide +kernel
theorem dX7_sets_174 : decode cX7_sets 174 = .ok (.if_icmp .ne 8, 3) := by decide +kernel
theorem dX7_sets_177 : decode cX7_sets 177 = .ok (.iload 5, 2) := by decide +kernel
theorem dX7_sets_179 : decode cX7_sets 179 = .ok (.goto 13, 3) := by decide +kernel
theorem dX7_sets_182 : decode cX7_sets 182 = .ok (.iload_n 3, 1) := by decide +kernel
theorem dX7_sets_183 : decode cX7_sets 183 = .ok (.ifCond .ne 7, 3) := by decide +kernel
theorem dX7_sets_186 : decode cX7_sets 186 = .ok (.iconst 0, 1) := by decide +kernel
theorem dX7_sets_187 : decode cX7_sets 187 = .ok (.goto 5, 3) := by decide +kernel
theorem dX7_sets_190 : decode cX7_sets 190 = .ok (.iload 4, 2) := by decide +kernel
theorem dX7_sets_192 : decode cX7_sets 192 = .ok (.ireturn, 1) := by decide +kernel
theorem dX7_share_0 : decode cX7_share 0 = .ok (.aload_n 0, 1) := by decide +kernel
theorem dX7_share_1 : decode cX7_share 1 = .ok (.iload_n 1, 1) := by decide +kernel
theorem dX7_share_2 : decode cX7_share 2 = .ok (.invokevirtual 157, 3) := by decide +kernel
theorem dX7_share_5 : decode cX7_share 5 = .ok (.ifCond .eq 15, 3) := by decide +kernel
theorem dX7_share_8 : decode cX7_share 8 = .ok (.iload_n 2, 1) := by decide +kernel
theorem dX7_share_9 : decode cX7_share 9 = .ok (.i2l, 1) := by decide +kernel
theorem dX7_share_10 : decode cX7_share 10 = .ok (.lconst 0, 1) := by decide +kernel
theorem dX7_share_11 : decode cX7_share 11 = .ok (.ldc2_w 190, 3) := by decide +kernel
theorem dX7_share_14 : decode cX7_share 14 = .ok (.invokestatic 41, 3) := by decide +kernel
theorem dX7_share_17 : decode cX7_share 17 = .ok (.ifCond .ne 6, 3) := by decide +kernel
theorem dX7_share_20 : decode cX7_share 20 = .ok (.ldc 58, 2) := by decide +kernel
theorem dX7_share_22 : decode cX7_share 22 = .ok (.ireturn, 1) := by decide +kernel
theorem dX7_share_23 : decode cX7_share 23 = .ok (.iconst 0, 1) := by decide +kernel
theorem dX7_share_24 : decode cX7_share 24 = .ok (.istore_n 3, 1) := by decide +kernel
theorem dX7_share_25 : decode cX7_share 25 = .ok (.iconst 0, 1) := by decide +kernel
theorem dX7_share_26 : decode cX7_share 26 = .ok (.istore 4, 2) := by decide +kernel
theorem dX7_share_28 : decode cX7_share 28 = .ok (.iload 4, 2) := by decide +kernel
theorem dX7_share_30 : decode cX7_share 30 = .ok (.aload_n 0, 1) := by decide +kernel
theorem dX7_share_31 : decode cX7_share 31 = .ok (.getfield 7, 3) := by decide +kernel
theorem dX7_share_34 : decode cX7_share 34 = .ok (.iconst 0, 1) := by decide +kernel
theorem dX7_share_35 : decode cX7_share 35 = .ok (.iaload, 1) := by decide +kernel
theorem dX7_share_36 : decode cX7_share 36 = .ok (.if_icmp .ge 40, 3) := by decide +kernel
theorem dX7_share_39 : decode cX7_share 39 = .ok (.iload_n 3, 1) := by decide +kernel
theorem dX7_share_40 : decode cX7_share 40 = .ok (.aload_n 0, 1) := by decide +kernel
theorem dX7_share_41 : decode cX7_share 41 = .ok (.getfield 7, 3) := by decide +kernel
theorem dX7_share_44 : decode cX7_share 44 = .ok (.iconst 5, 1) := by decide +kernel
theorem dX7_share_45 : decode cX7_share 45 = .ok (.iaload, 1) := by decide +kernel
theorem dX7_share_46 : decode cX7_share 46 = .ok (.iload 4, 2) := by decide +kernel
theorem dX7_share_48 : decode cX7_share 48 = .ok (.invokestatic 127, 3) := by decide +kernel
theorem dX7_share_51 : decode cX7_share 51 = .ok (.ifCond .eq 7, 3) := by decide +kernel
theorem dX7_share_54 : decode cX7_share 54 = .ok (.iconst 0, 1) := by decide +kernel
theorem dX7_share_55 : decode cX7_share 55 = .ok (.goto 13, 3) := by decide +kernel
theorem dX7_share_58 : decode cX7_share 58 = .ok (.aload_n 0, 1) := by decide +kernel
theorem dX7_share_59 : decode cX7_share 59 = .ok (.getfield 7, 3) := by decide +kernel
theorem dX7_share_62 : decode cX7_share 62 = .ok (.bipush 24, 2) := by decide +kernel
theorem dX7_share_64 : decode cX7_share 64 = .ok (.iload 4, 2) := by decide +kernel
theorem dX7_share_66 : decode cX7_share 66 = .ok (.iadd, 1) := by decide +kernel
theorem dX7_share_67 : decode cX7_share 67 = .ok (.iaload, 1) := by decide +kernel
theorem dX7_share_68 : decode cX7_share 68 = .ok (.iadd, 1) := by decide +kernel
theorem dX7_share_69 : decode cX7_share 69 = .ok (.istore_n 3, 1) := by decide +kernel
theorem dX7_share_70 : decode cX7_share 70 = .ok (.iinc 4 1, 3) := by decide +kernel
theorem dX7_share_73 : decode cX7_share 73 = .ok (.goto (-45), 3) := by decide +kernel
theorem dX7_share_76 : decode cX7_share 76 = .ok (.aload_n 0, 1) := by decide +kernel
theorem dX7_share_77 : decode cX7_share 77 = .ok (.getfield 7, 3) := by decide +kernel
theorem dX7_share_80 : decode cX7_share 80 = .ok (.iconst 5, 1) := by decide +kernel
theorem dX7_share_81 : decode cX7_share 81 = .ok (.iaload, 1) := by decide +kernel
theorem dX7_share_82 : decode cX7_share 82 = .ok (.iload_n 1, 1) := by decide +kernel
theorem dX7_share_83 : decode cX7_share 83 = .ok (.invokestatic 127, 3) := by decide +kernel
theorem dX7_share_86 : decode cX7_share 86 = .ok (.ifCond .ne 15, 3) := by decide +kernel
theorem dX7_share_89 : decode cX7_share 89 = .ok (.aload_n 0, 1) := by decide +kernel
theorem dX7_share_90 : decode cX7_share 90 = .ok (.getfield 7, 3) := by decide +kernel
theorem dX7_share_93 : decode cX7_share 93 = .ok (.bipush 24, 2) := by decide +kernel
theorem dX7_share_95 : decode cX7_share 95 = .ok (.iload_n 1, 1) := by decide +kernel
theorem dX7_share_96 : decode cX7_share 96 = .ok (.iadd, 1) := by decide +kernel
theorem dX7_share_97 : decode cX7_share 97 = .ok (.iaload, 1) := by decide +kernel
theorem dX7_share_98 : decode cX7_share 98 = .ok (.ifCond .ne 5, 3) := by decide +kernel
theorem dX7_share_101 : decode cX7_share 101 = .ok (.iconst 0, 1) := by decide +kernel
theorem dX7_share_102 : decode cX7_share 102 = .ok (.ireturn, 1) := by decide +kernel
theorem dX7_share_103 : decode cX7_share 103 = .ok (.iload_n 2, 1) := by decide +kernel
theorem dX7_share_104 : decode cX7_share 104 = .ok (.istore 4, 2) := by decide +kernel
theorem dX7_share_106 : decode cX7_share 106 = .ok (.iconst 0, 1) := by decide +kernel
theorem dX7_share_107 : decode cX7_share 107 = .ok (.istore 5, 2) := by decide +kernel
theorem dX7_share_109 : decode cX7_share 109 = .ok (.iconst 0, 1) := by decide +kernel
theorem dX7_share_110 : decode cX7_share 110 = .ok (.istore 6, 2) := by decide +kernel
theorem dX7_share_112 : decode cX7_share 112 = .ok (.iload 6, 2) := by decide +kernel
theorem dX7_share_114 : decode cX7_share 114 = .ok (.aload_n 0, 1) := by decide +kernel
theorem dX7_share_115 : decode cX7_share 115 = .ok (.getfield 7, 3) := by decide +kernel
theorem dX7_share_118 : decode cX7_share 118 = .ok (.iconst 0, 1) := by decide +kernel
theorem dX7_share_119 : decode cX7_share 119 = .ok (.iaload, 1) := by decide +kernel
theorem dX7_share_120 : decode cX7_share 120 = .ok (.if_icmp .ge 71, 3) := by decide +kernel
theorem dX7_share_123 : decode cX7_share 123 = .ok (.aload_n 0, 1) := by decide +kernel
theorem dX7_share_124 : decode cX7_share 124 = .ok (.getfield 7, 3) := by decide +kernel
theorem dX7_share_127 : decode cX7_share 127 = .ok (.iconst 5, 1) := by decide +kernel
theorem dX7_share_128 : decode cX7_share 128 = .ok (.iaload, 1) := by decide +kernel
theorem dX7_share_129 : decode cX7_share 129 = .ok (.iload 6, 2) := by decide +kernel
theorem dX7_share_131 : decode cX7_share 131 = .ok (.invokestatic 127, 3) := by decide +kernel
theorem dX7_share_134 : decode cX7_share 134 = .ok (.ifCond .eq 7, 3) := by decide +kernel
theorem dX7_share_137 : decode cX7_share 137 = .ok (.iconst 0, 1) := by decide +kernel
theorem dX7_share_138 : decode cX7_share 138 = .ok (.goto 13, 3) := by decide +kernel
theorem dX7_share_141 : decode cX7_share 141 = .ok (.aload_n 0, 1) := by decide +kernel
theorem dX7_share_142 : decode cX7_share 142 = .ok (.getfield 7, 3) := by decide +kernel
theorem dX7_share_145 : decode cX7_share 145 = .ok (.bipush 24, 2) := by decide +kernel
theorem dX7_share_147 : decode cX7_share 147 = .ok (.iload 6, 2) := by decide +kernel
theorem dX7_share_149 : decode cX7_share 149 = .ok (.iadd, 1) := by decide +kernel
theorem dX7_share_150 : decode cX7_share 150 = .ok (.iaload, 1) := by decide +kernel
theorem dX7_share_151 : decode cX7_share 151 = .ok (.istore 7, 2) := by decide +kernel
theorem dX7_share_153 : decode cX7_share 153 = .ok (.iload 4, 2) := by decide +kernel
theorem dX7_share_155 : decode cX7_share 155 = .ok (.iload_n 2, 1) := by decide +kernel
theorem dX7_share_156 : decode cX7_share 156 = .ok (.iload 7, 2) := by decide +kernel
theorem dX7_share_158 : decode cX7_share 158 = .ok (.imul, 1) := by decide +kernel
theorem dX7_share_159 : decode cX7_share 159 = .ok (.iload_n 3, 1) := by decide +kernel
theorem dX7_share_160 : decode cX7_share 160 = .ok (.idiv, 1) := by decide +kernel
theorem dX7_share_161 : decode cX7_share 161 = .ok (.isub, 1) := by decide +kernel
theorem dX7_share_162 : decode cX7_share 162 = .ok (.istore 4, 2) := by decide +kernel
theorem dX7_share_164 : decode cX7_share 164 = .ok (.iload 5, 2) := by decide +kernel
theorem dX7_share_166 : decode cX7_share 166 = .ok (.iload 6, 2) := by decide +kernel
theorem dX7_share_168 : decode cX7_share 168 = .ok (.iload_n 1, 1) := by decide +kernel
theorem dX7_share_169 : decode cX7_share 169 = .ok (.if_icmp .ge 12, 3) := by decide +kernel
theorem dX7_share_172 : decode cX7_share 172 = .ok (.iload 7, 2) := by decide +kernel
theorem dX7_share_174 : decode cX7_share 174 = .ok (.ifCond .le 7, 3) := by decide +kernel
theorem dX7_share_177 : decode cX7_share 177 = .ok (.iconst 1, 1) := by decide +kernel
theorem dX7_share_178 : decode cX7_share 178 = .ok (.goto 4, 3) := by decide +kernel
theorem dX7_share_181 : decode cX7_share 181 = .ok (.iconst 0, 1) := by decide +kernel
theorem dX7_share_182 : decode cX7_share 182 = .ok (.iadd, 1) := by decide +kernel
theorem dX7_share_183 : decode cX7_share 183 = .ok (.istore 5, 2) := by decide +kernel
theorem dX7_share_185 : decode cX7_share 185 = .ok (.iinc 6 1, 3) := by decide +kernel
theorem dX7_share_188 : decode cX7_share 188 = .ok (.goto (-76), 3) := by decide +kernel
theorem dX7_share_191 : decode cX7_share 191 = .ok (.iload_n 2, 1) := by decide +kernel
theorem dX7_share_192 : decode cX7_share 192 = .ok (.aload_n 0, 1) := by decide +kernel
theorem dX7_share_193 : decode cX7_share 193 = .ok (.getfield 7, 3) := by decide +kernel
theorem dX7_share_196 : decode cX7_share 196 = .ok (.bipush 24, 2) := by decide +kernel
theorem dX7_share_198 : decode cX7_share 198 = .ok (.iload_n 1, 1) := by decide +kernel
theorem dX7_share_199 : decode cX7_share 199 = .ok (.iadd, 1) := by decide +kernel
theorem dX7_share_200 : decode cX7_share 200 = .ok (.iaload, 1) := by decide +kernel
theorem dX7_share_201 : decode cX7_share 201 = .ok (.imul, 1) := by decide +kernel
theorem dX7_share_202 : decode cX7_share 202 = .ok (.iload_n 3, 1) := by decide +kernel
theorem dX7_share_203 : decode cX7_share 203 = .ok (.idiv, 1) := by decide +kernel
theorem dX7_share_204 : decode cX7_share 204 = .ok (.iload 5, 2) := by decide +kernel
theorem dX7_share_206 : decode cX7_share 206 = .ok (.iload 4, 2) := by decide +kernel
theorem dX7_share_208 : decode cX7_share 208 = .ok (.if_icmp .ge 7, 3) := by decide +kernel
theorem dX7_share_211 : decode cX7_share 211 = .ok (.iconst 1, 1) := by decide +kernel
theorem dX7_share_212 : decode cX7_share 212 = .ok (.goto 4, 3) := by decide +kernel
theorem dX7_share_215 : decode cX7_share 215 = .ok (.iconst 0, 1) := by decide +kernel
theorem dX7_share_216 : decode cX7_share 216 = .ok (.iadd, 1) := by decide +kernel
theorem dX7_share_217 : decode cX7_share 217 = .ok (.ireturn, 1) := by decide +kernel
theorem dX7_loudBy_0 : decode cX7_loudBy 0 = .ok (.aload_n 0, 1) := by decide +kernel
theorem dX7_loudBy_1 : decode cX7_loudBy 1 = .ok (.invokevirtual 172, 3) := by decide +kernel
theorem dX7_loudBy_4 : decode cX7_loudBy 4 = .ok (.aload_n 0, 1) := by decide +kernel
theorem dX7_loudBy_5 : decode cX7_loudBy 5 = .ok (.getfield 7, 3) := by decide +kernel
theorem dX7_loudBy_8 : decode cX7_loudBy 8 = .ok (.iconst 3, 1) := by decide +kernel
theorem dX7_loudBy_9 : decode cX7_loudBy 9 = .ok (.iaload, 1) := by decide +kernel
theorem dX7_loudBy_10 : decode cX7_loudBy 10 = .ok (.iconst 1, 1) := by decide +kernel
theorem dX7_loudBy_11 : decode cX7_loudBy 11 = .ok (.iadd, 1) := by decide +kernel
theorem dX7_loudBy_12 : decode cX7_loudBy 12 = .ok (.aload_n 0, 1) := by decide +kernel
theorem dX7_loudBy_13 : decode cX7_loudBy 13 = .ok (.getfield 7, 3) := by decide +kernel
theorem dX7_loudBy_16 : decode cX7_loudBy 16 = .ok (.iconst 1, 1) := by decide +kernel
theorem dX7_loudBy_17 : decode cX7_loudBy 17 = .ok (.iaload, 1) := by decide +kernel
theorem dX7_loudBy_18 : decode cX7_loudBy 18 = .ok (.irem, 1) := by decide +kernel
theorem dX7_loudBy_19 : decode cX7_loudBy 19 = .ok (.istore 4, 2) := by decide +kernel
theorem dX7_loudBy_21 : decode cX7_loudBy 21 = .ok (.aload_n 0, 1) := by decide +kernel
theorem dX7_loudBy_22 : decode cX7_loudBy 22 = .ok (.getfield 7, 3) := by decide +kernel
theorem dX7_loudBy_25 : decode cX7_loudBy 25 = .ok (.bipush 73, 2) := by decide +kernel
theorem dX7_loudBy_27 : decode cX7_loudBy 27 = .ok (.iload 4, 2) := by decide +kernel
theorem dX7_loudBy_29 : decode cX7_loudBy 29 = .ok (.iadd, 1) := by decide +kernel
theorem dX7_loudBy_30 : decode cX7_loudBy 30 = .ok (.dup2, 1) := by decide +kernel
theorem dX7_loudBy_31 : decode cX7_loudBy 31 = .ok (.iaload, 1) := by decide +kernel
theorem dX7_loudBy_32 : decode cX7_loudBy 32 = .ok (.iload_n 1, 1) := by decide +kernel
theorem dX7_loudBy_33 : decode cX7_loudBy 33 = .ok (.ixor, 1) := by decide +kernel
theorem dX7_loudBy_34 : decode cX7_loudBy 34 = .ok (.iastore, 1) := by decide +kernel
theorem dX7_loudBy_35 : decode cX7_loudBy 35 = .ok (.iconst 0, 1) := by decide +kernel
theorem dX7_loudBy_36 : decode cX7_loudBy 36 = .ok (.istore 5, 2) := by decide +kernel
theorem dX7_loudBy_38 : decode cX7_loudBy 38 = .ok (.iload 5, 2) := by decide +kernel
theorem dX7_loudBy_40 : decode cX7_loudBy 40 = .ok (.iload_n 2, 1) := by decide +kernel
theorem dX7_loudBy_41 : decode cX7_loudBy 41 = .ok (.if_icmp .ge 44, 3) := by decide +kernel
theorem dX7_loudBy_44 : decode cX7_loudBy 44 = .ok (.aload_n 0, 1) := by decide +kernel
theorem dX7_loudBy_45 : decode cX7_loudBy 45 = .ok (.getfield 7, 3) := by decide +kernel
theorem dX7_loudBy_48 : decode cX7_loudBy 48 = .ok (.bipush 45, 2) := by decide +kernel
theorem dX7_loudBy_50 : decode cX7_loudBy 50 = .ok (.aload_n 0, 1) := by decide +kernel
theorem dX7_loudBy_51 : decode cX7_loudBy 51 = .ok (.getfield 7, 3) := by decide +kernel
theorem dX7_loudBy_54 : decode cX7_loudBy 54 = .ok (.bipush 45, 2) := by decide +kernel
theorem dX7_loudBy_56 : decode cX7_loudBy 56 = .ok (.iaload, 1) := by decide +kernel
theorem dX7_loudBy_57 : decode cX7_loudBy 57 = .ok (.iconst 2, 1) := by decide +kernel
theorem dX7_loudBy_58 : decode cX7_loudBy 58 = .ok (.iadd, 1) := by decide +kernel
theorem dX7_loudBy_59 : decode cX7_loudBy 59 = .ok (.bipush 99, 2) := by decide +kernel
theorem dX7_loudBy_61 : decode cX7_loudBy 61 = .ok (.if_icmp .le 8, 3) := by decide +kernel
theorem dX7_loudBy_64 : decode cX7_loudBy 64 = .ok (.bipush 99, 2) := by decide +kernel
theorem dX7_loudBy_66 : decode cX7_loudBy 66 = .ok (.goto 12, 3) := by decide +kernel
theorem dX7_loudBy_69 : decode cX7_loudBy 69 = .ok (.aload_n 0, 1) := by decide +kernel
theorem dX7_loudBy_70 : decode cX7_loudBy 70 = .ok (.getfield 7, 3) := by decide +kernel
theorem dX7_loudBy_73 : decode cX7_loudBy 73 = .ok (.bipush 45, 2) := by decide +kernel
theorem dX7_loudBy_75 : decode cX7_loudBy 75 = .ok (.iaload, 1) := by decide +kernel
theorem dX7_loudBy_76 : decode cX7_loudBy 76 = .ok (.iconst 2, 1) := by decide +kernel
theorem dX7_loudBy_77 : decode cX7_loudBy 77 = .ok (.iadd, 1) := by decide +kernel
theorem dX7_loudBy_78 : decode cX7_loudBy 78 = .ok (.iastore, 1) := by decide +kernel
theorem dX7_loudBy_79 : decode cX7_loudBy 79 = .ok (.iinc 5 1, 3) := by decide +kernel
theorem dX7_loudBy_82 : decode cX7_loudBy 82 = .ok (.goto (-44), 3) := by decide +kernel
theorem dX7_loudBy_85 : decode cX7_loudBy 85 = .ok (.aload_n 0, 1) := by decide +kernel
theorem dX7_loudBy_86 : decode cX7_loudBy 86 = .ok (.iload_n 3, 1) := by decide +kernel
theorem dX7_loudBy_87 : decode cX7_loudBy 87 = .ok (.invokevirtual 175, 3) := by decide +kernel
theorem dX7_loudBy_90 : decode cX7_loudBy 90 = .ok (.aload_n 0, 1) := by decide +kernel
theorem dX7_loudBy_91 : decode cX7_loudBy 91 = .ok (.bipush 43, 2) := by decide +kernel
theorem dX7_loudBy_93 : decode cX7_loudBy 93 = .ok (.invokevirtual 149, 3) := by decide +kernel
theorem dX7_loudBy_96 : decode cX7_loudBy 96 = .ok (.ireturn, 1) := by decide +kernel
theorem dX7_byTurns_0 : decode cX7_byTurns 0 = .ok (.aload_n 0, 1) := by decide +kernel
theorem dX7_byTurns_1 : decode cX7_byTurns 1 = .ok (.invokevirtual 138, 3) := by decide +kernel
theorem dX7_byTurns_4 : decode cX7_byTurns 4 = .ok (.ifCond .ne 6, 3) := by decide +kernel
theorem dX7_byTurns_7 : decode cX7_byTurns 7 = .ok (.ldc 137, 2) := by decide +kernel
theorem dX7_byTurns_9 : decode cX7_byTurns 9 = .ok (.ireturn, 1) := by decide +kernel
theorem dX7_byTurns_10 : decode cX7_byTurns 10 = .ok (.iload_n 1, 1) := by decide +kernel
theorem dX7_byTurns_11 : decode cX7_byTurns 11 = .ok (.i2l, 1) := by decide +kernel
theorem dX7_byTurns_12 : decode cX7_byTurns 12 = .ok (.lconst 0, 1) := by decide +kernel
theorem dX7_byTurns_13 : decode cX7_byTurns 13 = .ok (.ldc2_w 192, 3) := by decide +kernel
theorem dX7_byTurns_16 : decode cX7_byTurns 16 = .ok (.invokestatic 41, 3) := by decide +kernel
theorem dX7_byTurns_19 : decode cX7_byTurns 19 = .ok (.ifCond .eq 15, 3) := by decide +kernel
theorem dX7_byTurns_22 : decode cX7_byTurns 22 = .ok (.iload_n 2, 1) := by decide +kernel
theorem dX7_byTurns_23 : decode cX7_byTurns 23 = .ok (.i2l, 1) := by decide +kernel
theorem dX7_byTurns_24 : decode cX7_byTurns 24 = .ok (.lconst 1, 1) := by decide +kernel
theorem dX7_byTurns_25 : decode cX7_byTurns 25 = .ok (.ldc2_w 181, 3) := by decide +kernel
theorem dX7_byTurns_28 : decode cX7_byTurns 28 = .ok (.invokestatic 41, 3) := by decide +kernel
theorem dX7_byTurns_31 : decode cX7_byTurns 31 = .ok (.ifCond .ne 6, 3) := by decide +kernel
theorem dX7_byTurns_34 : decode cX7_byTurns 34 = .ok (.ldc 58, 2) := by decide +kernel
theorem dX7_byTurns_36 : decode cX7_byTurns 36 = .ok (.ireturn, 1) := by decide +kernel
theorem dX7_byTurns_37 : decode cX7_byTurns 37 = .ok (.iconst 0, 1) := by decide +kernel
theorem dX7_byTurns_38 : decode cX7_byTurns 38 = .ok (.istore_n 3, 1) := by decide +kernel
theorem dX7_byTurns_39 : decode cX7_byTurns 39 = .ok (.iload_n 3, 1) := by decide +kernel
theorem dX7_byTurns_40 : decode cX7_byTurns 40 = .ok (.bipush 6, 2) := by decide +kernel
theorem dX7_byTurns_42 : decode cX7_byTurns 42 = .ok (.if_icmp .ge 31, 3) := by decide +kernel
theorem dX7_byTurns_45 : decode cX7_byTurns 45 = .ok (.aload_n 0, 1) := by decide +kernel
theorem dX7_byTurns_46 : decode cX7_byTurns 46 = .ok (.getfield 28, 3) := by decide +kernel
theorem dX7_byTurns_49 : decode cX7_byTurns 49 = .ok (.bipush 6, 2) := by decide +kernel
theorem dX7_byTurns_51 : decode cX7_byTurns 51 = .ok (.iload_n 1, 1) := by decide +kernel
theorem dX7_byTurns_52 : decode cX7_byTurns 52 = .ok (.imul, 1) := by decide +kernel
theorem dX7_byTurns_53 : decode cX7_byTurns 53 = .ok (.iload_n 3, 1) := by decide +kernel
theorem dX7_byTurns_54 : decode cX7_byTurns 54 = .ok (.iadd, 1) := by decide +kernel
theorem dX7_byTurns_55 : decode cX7_byTurns 55 = .ok (.aload_n 0, 1) := by decide +kernel
theorem dX7_byTurns_56 : decode cX7_byTurns 56 = .ok (.iload_n 3, 1) := by decide +kernel
theorem dX7_byTurns_57 : decode cX7_byTurns 57 = .ok (.iconst 3, 1) := by decide +kernel
theorem dX7_byTurns_58 : decode cX7_byTurns 58 = .ok (.idiv, 1) := by decide +kernel
theorem dX7_byTurns_59 : decode cX7_byTurns 59 = .ok (.iload_n 3, 1) := by decide +kernel
theorem dX7_byTurns_60 : decode cX7_byTurns 60 = .ok (.iconst 3, 1) := by decide +kernel
theorem dX7_byTurns_61 : decode cX7_byTurns 61 = .ok (.irem, 1) := by decide +kernel
theorem dX7_byTurns_62 : decode cX7_byTurns 62 = .ok (.iload_n 2, 1) := by decide +kernel
theorem dX7_byTurns_63 : decode cX7_byTurns 63 = .ok (.invokevirtual 194, 3) := by decide +kernel
theorem dX7_byTurns_66 : decode cX7_byTurns 66 = .ok (.iastore, 1) := by decide +kernel
theorem dX7_byTurns_67 : decode cX7_byTurns 67 = .ok (.iinc 3 1, 3) := by decide +kernel
theorem dX7_byTurns_70 : decode cX7_byTurns 70 = .ok (.goto (-31), 3) := by decide +kernel
theorem dX7_byTurns_73 : decode cX7_byTurns 73 = .ok (.iload_n 1, 1) := by decide +kernel
theorem dX7_byTurns_74 : decode cX7_byTurns 74 = .ok (.iconst 1, 1) := by decide +kernel
theorem dX7_byTurns_75 : decode cX7_byTurns 75 = .ok (.isub, 1) := by decide +kernel
theorem dX7_byTurns_76 : decode cX7_byTurns 76 = .ok (.istore_n 3, 1) := by decide +kernel
theorem dX7_byTurns_77 : decode cX7_byTurns 77 = .ok (.iload_n 3, 1) := by decide +kernel
theorem dX7_byTurns_78 : decode cX7_byTurns 78 = .ok (.ifCond .lt 151, 3) := by decide +kernel
theorem dX7_byTurns_81 : decode cX7_byTurns 81 = .ok (.iconst 0, 1) := by decide +kernel
theorem dX7_byTurns_82 : decode cX7_byTurns 82 = .ok (.istore 4, 2) := by decide +kernel
theorem dX7_byTurns_84 : decode cX7_byTurns 84 = .ok (.iload 4, 2) := by decide +kernel
theorem dX7_byTurns_86 : decode cX7_byTurns 86 = .ok (.bipush 6, 2) := by decide +kernel
theorem dX7_byTurns_88 : decode cX7_byTurns 88 = .ok (.if_icmp .ge 135, 3) := by decide +kernel
theorem dX7_byTurns_91 : decode cX7_byTurns 91 = .ok (.aload_n 0, 1) := by decide +kernel
theorem dX7_byTurns_92 : decode cX7_byTurns 92 = .ok (.getfield 28, 3) := by decide +kernel
theorem dX7_byTurns_95 : decode cX7_byTurns 95 = .ok (.bipush 6, 2) := by decide +kernel
theorem dX7_byTurns_97 : decode cX7_byTurns 97 = .ok (.iload_n 3, 1) := by decide +kernel
theorem dX7_byTurns_98 : decode cX7_byTurns 98 = .ok (.iconst 1, 1) := by decide +kernel
theorem dX7_byTurns_99 : decode cX7_byTurns 99 = .ok (.iadd, 1) := by decide +kernel
theorem dX7_byTurns_100 : decode cX7_byTurns 100 = .ok (.imul, 1) := by decide +kernel
theorem dX7_byTurns_101 : decode cX7_byTurns 101 = .ok (.iload 4, 2) := by decide +kernel
theorem dX7_byTurns_103 : decode cX7_byTurns 103 = .ok (.iadd, 1) := by decide +kernel
theorem dX7_byTurns_104 : decode cX7_byTurns 104 = .ok (.iaload, 1) := by decide +kernel
theorem dX7_byTurns_105 : decode cX7_byTurns 105 = .ok (.istore 5, 2) := by decide +kernel
theorem dX7_byTurns_107 : decode cX7_byTurns 107 = .ok (.iload_n 3, 1) := by decide +kernel
theorem dX7_byTurns_108 : decode cX7_byTurns 108 = .ok (.iconst 2, 1) := by decide +kernel
theorem dX7_byTurns_109 : decode cX7_byTurns 109 = .ok (.irem, 1) := by decide +kernel
theorem dX7_byTurns_110 : decode cX7_byTurns 110 = .ok (.ifCond .ne 13, 3) := by decide +kernel
theorem dX7_byTurns_113 : decode cX7_byTurns 113 = .ok (.iload 4, 2) := by decide +kernel
theorem dX7_byTurns_115 : decode cX7_byTurns 115 = .ok (.iconst 3, 1) := by decide +kernel
theorem dX7_byTurns_116 : decode cX7_byTurns 116 = .ok (.iadd, 1) := by decide +kernel
theorem dX7_byTurns_117 : decode cX7_byTurns 117 = .ok (.bipush 6, 2) := by decide +kernel
theorem dX7_byTurns_119 : decode cX7_byTurns 119 = .ok (.irem, 1) := by decide +kernel
theorem dX7_byTurns_120 : decode cX7_byTurns 120 = .ok (.goto 20, 3) := by decide +kernel
theorem dX7_byTurns_123 : decode cX7_byTurns 123 = .ok (.iload 4, 2) := by decide +kernel
theorem dX7_byTurns_125 : decode cX7_byTurns 125 = .ok (.iconst 3, 1) := by decide +kernel
theorem dX7_byTurns_126 : decode cX7_byTurns 126 = .ok (.irem, 1) := by decide +kernel
theorem dX7_byTurns_127 : decode cX7_byTurns 127 = .ok (.iconst 2, 1) := by decide +kernel
theorem dX7_byTurns_128 : decode cX7_byTurns 128 = .ok (.if_icmp .ge 10, 3) := by decide +kernel
theorem dX7_byTurns_131 : decode cX7_byTurns 131 = .ok (.iload 4, 2) := by decide +kernel
theorem dX7_byTurns_133 : decode cX7_byTurns 133 = .ok (.iconst 1, 1) := by decide +kernel
theorem dX7_byTurns_134 : decode cX7_byTurns 134 = .ok (.iadd, 1) := by decide +kernel
theorem dX7_byTurns_135 : decode cX7_byTurns 135 = .ok (.goto 5, 3) := by decide +kernel
theorem dX7_byTurns_138 : decode cX7_byTurns 138 = .ok (.iload 4, 2) := by decide +kernel
theorem dX7_byTurns_140 : decode cX7_byTurns 140 = .ok (.istore 6, 2) := by decide +kernel
theorem dX7_byTurns_142 : decode cX7_byTurns 142 = .ok (.aload_n 0, 1) := by decide +kernel
theorem dX7_byTurns_143 : decode cX7_byTurns 143 = .ok (.getfield 28, 3) := by decide +kernel
theorem dX7_byTurns_146 : decode cX7_byTurns 146 = .ok (.bipush 6, 2) := by decide +kernel
theorem dX7_byTurns_148 : decode cX7_byTurns 148 = .ok (.iload_n 3, 1) := by decide +kernel
theorem dX7_byTurns_149 : decode cX7_byTurns 149 = .ok (.iconst 1, 1) := by decide +kernel
theorem dX7_byTurns_150 : decode cX7_byTurns 150 = .ok (.iadd, 1) := by decide +kernel
theorem dX7_byTurns_151 : decode cX7_byTurns 151 = .ok (.imul, 1) := by decide +kernel
theorem dX7_byTurns_152 : decode cX7_byTurns 152 = .ok (.iload 6, 2) := by decide +kernel
theorem dX7_byTurns_154 : decode cX7_byTurns 154 = .ok (.iadd, 1) := by decide +kernel
theorem dX7_byTurns_155 : decode cX7_byTurns 155 = .ok (.iaload, 1) := by decide +kernel
theorem dX7_byTurns_156 : decode cX7_byTurns 156 = .ok (.istore 7, 2) := by decide +kernel
theorem dX7_byTurns_158 : decode cX7_byTurns 158 = .ok (.iload_n 3, 1) := by decide +kernel
theorem dX7_byTurns_159 : decode cX7_byTurns 159 = .ok (.iconst 2, 1) := by decide +kernel
theorem dX7_byTurns_160 : decode cX7_byTurns 160 = .ok (.irem, 1) := by decide +kernel
theorem dX7_byTurns_161 : decode cX7_byTurns 161 = .ok (.ifCond .ne 18, 3) := by decide +kernel
theorem dX7_byTurns_164 : decode cX7_byTurns 164 = .ok (.iload 7, 2) := by decide +kernel
theorem dX7_byTurns_166 : decode cX7_byTurns 166 = .ok (.iload 5, 2) := by decide +kernel
theorem dX7_byTurns_168 : decode cX7_byTurns 168 = .ok (.if_icmp .le 7, 3) := by decide +kernel
theorem dX7_byTurns_171 : decode cX7_byTurns 171 = .ok (.iconst 1, 1) := by decide +kernel
theorem dX7_byTurns_172 : decode cX7_byTurns 172 = .ok (.goto 19, 3) := by decide +kernel
theorem dX7_byTurns_175 : decode cX7_byTurns 175 = .ok (.iconst 0, 1) := by decide +kernel
theorem dX7_byTurns_176 : decode cX7_byTurns 176 = .ok (.goto 15, 3) := by decide +kernel
theorem dX7_byTurns_179 : decode cX7_byTurns 179 = .ok (.iload 7, 2) := by decide +kernel
theorem dX7_byTurns_181 : decode cX7_byTurns 181 = .ok (.iload 5, 2) := by decide +kernel
theorem dX7_byTurns_183 : decode cX7_byTurns 183 = .ok (.if_icmp .ge 7, 3) := by decide +kernel
theorem dX7_byTurns_186 : decode cX7_byTurns 186 = .ok (.iconst 1, 1) := by decide +kernel
theorem dX7_byTurns_187 : decode cX7_byTurns 187 = .ok (.goto 4, 3) := by decide +kernel
theorem dX7_byTurns_190 : decode cX7_byTurns 190 = .ok (.iconst 0, 1) := by decide +kernel
theorem dX7_byTurns_191 : decode cX7_byTurns 191 = .ok (.istore 8, 2) := by decide +kernel
theorem dX7_byTurns_193 : decode cX7_byTurns 193 = .ok (.aload_n 0, 1) := by decide +kernel
theorem dX7_byTurns_194 : decode cX7_byTurns 194 = .ok (.getfield 28, 3) := by decide +kernel
theorem dX7_byTurns_197 : decode cX7_byTurns 197 = .ok (.bipush 6, 2) := by decide +kernel
theorem dX7_byTurns_199 : decode cX7_byTurns 199 = .ok (.iload_n 3, 1) := by decide +kernel
theorem dX7_byTurns_200 : decode cX7_byTurns 200 = .ok (.imul, 1) := by decide +kernel
theorem dX7_byTurns_201 : decode cX7_byTurns 201 = .ok (.iload 4, 2) := by decide +kernel
theorem dX7_byTurns_203 : decode cX7_byTurns 203 = .ok (.iadd, 1) := by decide +kernel
theorem dX7_byTurns_204 : decode cX7_byTurns 204 = .ok (.iload 8, 2) := by decide +kernel
theorem dX7_byTurns_206 : decode cX7_byTurns 206 = .ok (.ifCond .eq 8, 3) := by decide +kernel
theorem dX7_byTurns_209 : decode cX7_byTurns 209 = .ok (.iload 7, 2) := by decide +kernel
theorem dX7_byTurns_211 : decode cX7_byTurns 211 = .ok (.goto 5, 3) := by decide +kernel
theorem dX7_byTurns_214 : decode cX7_byTurns 214 = .ok (.iload 5, 2) := by decide +kernel
theorem dX7_byTurns_216 : decode cX7_byTurns 216 = .ok (.iastore, 1) := by decide +kernel
theorem dX7_byTurns_217 : decode cX7_byTurns 217 = .ok (.iinc 4 1, 3) := by decide +kernel
theorem dX7_byTurns_220 : decode cX7_byTurns 220 = .ok (.goto (-136), 3) := by decide +kernel
theorem dX7_byTurns_223 : decode cX7_byTurns 223 = .ok (.iinc 3 (-1), 3) := by decide +kernel
theorem dX7_byTurns_226 : decode cX7_byTurns 226 = .ok (.goto (-149), 3) := by decide +kernel
theorem dX7_byTurns_229 : decode cX7_byTurns 229 = .ok (.aload_n 0, 1) := by decide +kernel
theorem dX7_byTurns_230 : decode cX7_byTurns 230 = .ok (.getfield 28, 3) := by decide +kernel
theorem dX7_byTurns_233 : decode cX7_byTurns 233 = .ok (.iconst 0, 1) := by decide +kernel
theorem dX7_byTurns_234 : decode cX7_byTurns 234 = .ok (.iaload, 1) := by decide +kernel
theorem dX7_byTurns_235 : decode cX7_byTurns 235 = .ok (.ireturn, 1) := by decide +kernel
theorem dX7_isSo_0 : decode cX7_isSo 0 = .ok (.iconst 1, 1) := by decide +kernel
theorem dX7_isSo_1 : decode cX7_isSo 1 = .ok (.istore_n 3, 1) := by decide +kernel
theorem dX7_isSo_2 : decode cX7_isSo 2 = .ok (.iconst 0, 1) := by decide +kernel
theorem dX7_isSo_3 : decode cX7_isSo 3 = .ok (.istore 4, 2) := by decide +kernel
theorem dX7_isSo_5 : decode cX7_isSo 5 = .ok (.iload 4, 2) := by decide +kernel
theorem dX7_isSo_7 : decode cX7_isSo 7 = .ok (.iload_n 2, 1) := by decide +kernel
theorem dX7_isSo_8 : decode cX7_isSo 8 = .ok (.if_icmp .ge 43, 3) := by decide +kernel
theorem dX7_isSo_11 : decode cX7_isSo 11 = .ok (.aload_n 0, 1) := by decide +kernel
theorem dX7_isSo_12 : decode cX7_isSo 12 = .ok (.bipush 43, 2) := by decide +kernel
theorem dX7_isSo_14 : decode cX7_isSo 14 = .ok (.invokevirtual 146, 3) := by decide +kernel
theorem dX7_isSo_17 : decode cX7_isSo 17 = .ok (.iload_n 3, 1) := by decide +kernel
theorem dX7_isSo_18 : decode cX7_isSo 18 = .ok (.ifCond .eq 25, 3) := by decide +kernel
theorem dX7_isSo_21 : decode cX7_isSo 21 = .ok (.aload_n 0, 1) := by decide +kernel
theorem dX7_isSo_22 : decode cX7_isSo 22 = .ok (.bipush 43, 2) := by decide +kernel
theorem dX7_isSo_24 : decode cX7_isSo 24 = .ok (.invokevirtual 149, 3) := by decide +kernel
theorem dX7_isSo_27 : decode cX7_isSo 27 = .ok (.aload_n 0, 1) := by decide +kernel
theorem dX7_isSo_28 : decode cX7_isSo 28 = .ok (.getfield 22, 3) := by decide +kernel
theorem dX7_isSo_31 : decode cX7_isSo 31 = .ok (.iload_n 1, 1) := by decide +kernel
theorem dX7_isSo_32 : decode cX7_isSo 32 = .ok (.iload 4, 2) := by decide +kernel
theorem dX7_isSo_34 : decode cX7_isSo 34 = .ok (.iadd, 1) := by decide +kernel
theorem dX7_isSo_35 : decode cX7_isSo 35 = .ok (.iaload, 1) := by decide +kernel
theorem dX7_isSo_36 : decode cX7_isSo 36 = .ok (.if_icmp .ne 7, 3) := by decide +kernel
theorem dX7_isSo_39 : decode cX7_isSo 39 = .ok (.iconst 1, 1) := by decide +kernel
theorem dX7_isSo_40 : decode cX7_isSo 40 = .ok (.goto 4, 3) := by decide +kernel
theorem dX7_isSo_43 : decode cX7_isSo 43 = .ok (.iconst 0, 1) := by decide +kernel
theorem dX7_isSo_44 : decode cX7_isSo 44 = .ok (.istore_n 3, 1) := by decide +kernel
theorem dX7_isSo_45 : decode cX7_isSo 45 = .ok (.iinc 4 1, 3) := by decide +kernel
theorem dX7_isSo_48 : decode cX7_isSo 48 = .ok (.goto (-43), 3) := by decide +kernel
theorem dX7_isSo_51 : decode cX7_isSo 51 = .ok (.iload_n 3, 1) := by decide +kernel
theorem dX7_isSo_52 : decode cX7_isSo 52 = .ok (.ireturn, 1) := by decide +kernel
theorem dX7_who_0 : decode cX7_who 0 = .ok (.aload_n 0, 1) := by decide +kernel
theorem dX7_who_1 : decode cX7_who 1 = .ok (.iload_n 1, 1) := by decide +kernel
theorem dX7_who_2 : decode cX7_who 2 = .ok (.invokevirtual 157, 3) := by decide +kernel
theorem dX7_who_5 : decode cX7_who 5 = .ok (.ifCond .eq 35, 3) := by decide +kernel
theorem dX7_who_8 : decode cX7_who 8 = .ok (.iload_n 2, 1) := by decide +kernel
theorem dX7_who_9 : decode cX7_who 9 = .ok (.i2l, 1) := by decide +kernel
theorem dX7_who_10 : decode cX7_who 10 = .ok (.lconst 0, 1) := by decide +kernel
theorem dX7_who_11 : decode cX7_who 11 = .ok (.ldc2_w 192, 3) := by decide +kernel
theorem dX7_who_14 : decode cX7_who 14 = .ok (.invokestatic 41, 3) := by decide +kernel
theorem dX7_who_17 : decode cX7_who 17 = .ok (.ifCond .eq 23, 3) := by decide +kernel
theorem dX7_who_20 : decode cX7_who 20 = .ok (.iload_n 3, 1) := by decide +kernel
theorem dX7_who_21 : decode cX7_who 21 = .ok (.invokestatic 52, 3) := by decide +kernel
theorem dX7_who_24 : decode cX7_who 24 = .ok (.ifCond .eq 16, 3) := by decide +kernel
theorem dX7_who_27 : decode cX7_who 27 = .ok (.iload 5, 2) := by decide +kernel
theorem dX7_who_29 : decode cX7_who 29 = .ok (.i2l, 1) := by decide +kernel
theorem dX7_who_30 : decode cX7_who 30 = .ok (.lconst 1, 1) := by decide +kernel
theorem dX7_who_31 : decode cX7_who 31 = .ok (.ldc2_w 188, 3) := by decide +kernel
theorem dX7_who_34 : decode cX7_who 34 = .ok (.invokestatic 41, 3) := by decide +kernel
theorem dX7_who_37 : decode cX7_who 37 = .ok (.ifCond .ne 6, 3) := by decide +kernel
theorem dX7_who_40 : decode cX7_who 40 = .ok (.ldc 58, 2) := by decide +kernel
