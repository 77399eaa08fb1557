theorem dX11_nearest_40 : decode cX11_nearest 40 = .ok (.ifCond .eq 61, 3) := by decide +kernel
theorem dX11_nearest_43 : decode cX11_nearest 43 = .ok (.aload_n 0, 1) := by decide +kernel
theorem dX11_nearest_44 : decode cX11_nearest 44 = .ok (.getfield 69, 3) := by decide +kernel
theorem dX11_nearest_47 : decode cX11_nearest 47 = .ok (.aload_n 0, 1) := by decide +kernel
theorem dX11_nearest_48 : decode cX11_nearest 48 = .ok (.getfield 18, 3) := by decide +kernel
theorem dX11_nearest_51 : decode cX11_nearest 51 = .ok (.iload 4, 2) := by decide +kernel
theorem dX11_nearest_53 : decode cX11_nearest 53 = .ok (.aaload, 1) := by decide +kernel
theorem dX11_nearest_54 : decode cX11_nearest 54 = .ok (.aload_n 0, 1) := by decide +kernel
theorem dX11_nearest_55 : decode cX11_nearest 55 = .ok (.getfield 18, 3) := by decide +kernel
theorem dX11_nearest_58 : decode cX11_nearest 58 = .ok (.iload 4, 2) := by decide +kernel
theorem dX11_nearest_60 : decode cX11_nearest 60 = .ok (.aaload, 1) := by decide +kernel
theorem dX11_nearest_61 : decode cX11_nearest 61 = .ok (.getfield 250, 3) := by decide +kernel
theorem dX11_nearest_64 : decode cX11_nearest 64 = .ok (.aload_n 0, 1) := by decide +kernel
theorem dX11_nearest_65 : decode cX11_nearest 65 = .ok (.getfield 31, 3) := by decide +kernel
theorem dX11_nearest_68 : decode cX11_nearest 68 = .ok (.invokevirtual 274, 3) := by decide +kernel
theorem dX11_nearest_71 : decode cX11_nearest 71 = .ok (.aload_n 0, 1) := by decide +kernel
theorem dX11_nearest_72 : decode cX11_nearest 72 = .ok (.getfield 65, 3) := by decide +kernel
theorem dX11_nearest_75 : decode cX11_nearest 75 = .ok (.aload_n 0, 1) := by decide +kernel
theorem dX11_nearest_76 : decode cX11_nearest 76 = .ok (.getfield 69, 3) := by decide +kernel
theorem dX11_nearest_79 : decode cX11_nearest 79 = .ok (.invokevirtual 373, 3) := by decide +kernel
theorem dX11_nearest_82 : decode cX11_nearest 82 = .ok (.istore 5, 2) := by decide +kernel
theorem dX11_nearest_84 : decode cX11_nearest 84 = .ok (.iload_n 2, 1) := by decide +kernel
theorem dX11_nearest_85 : decode cX11_nearest 85 = .ok (.iconst (-1), 1) := by decide +kernel
theorem dX11_nearest_86 : decode cX11_nearest 86 = .ok (.if_icmp .eq 9, 3) := by decide +kernel
theorem dX11_nearest_89 : decode cX11_nearest 89 = .ok (.iload 5, 2) := by decide +kernel
theorem dX11_nearest_91 : decode cX11_nearest 91 = .ok (.iload_n 3, 1) := by decide +kernel
theorem dX11_nearest_92 : decode cX11_nearest 92 = .ok (.if_icmp .le 9, 3) := by decide +kernel
theorem dX11_nearest_95 : decode cX11_nearest 95 = .ok (.iload 4, 2) := by decide +kernel
theorem dX11_nearest_97 : decode cX11_nearest 97 = .ok (.istore_n 2, 1) := by decide +kernel
theorem dX11_nearest_98 : decode cX11_nearest 98 = .ok (.iload 5, 2) := by decide +kernel
theorem dX11_nearest_100 : decode cX11_nearest 100 = .ok (.istore_n 3, 1) := by decide +kernel
theorem dX11_nearest_101 : decode cX11_nearest 101 = .ok (.iinc 4 1, 3) := by decide +kernel
theorem dX11_nearest_104 : decode cX11_nearest 104 = .ok (.goto (-87), 3) := by decide +kernel
theorem dX11_nearest_107 : decode cX11_nearest 107 = .ok (.iload_n 2, 1) := by decide +kernel
theorem dX11_nearest_108 : decode cX11_nearest 108 = .ok (.ireturn, 1) := by decide +kernel
theorem dX11_sure_0 : decode cX11_sure 0 = .ok (.aload_n 0, 1) := by decide +kernel
theorem dX11_sure_1 : decode cX11_sure 1 = .ok (.iload_n 1, 1) := by decide +kernel
theorem dX11_sure_2 : decode cX11_sure 2 = .ok (.aload_n 0, 1) := by decide +kernel
theorem dX11_sure_3 : decode cX11_sure 3 = .ok (.getfield 65, 3) := by decide +kernel
theorem dX11_sure_6 : decode cX11_sure 6 = .ok (.invokevirtual 292, 3) := by decide +kernel
theorem dX11_sure_9 : decode cX11_sure 9 = .ok (.astore 4, 2) := by decide +kernel
theorem dX11_sure_11 : decode cX11_sure 11 = .ok (.aload_n 0, 1) := by decide +kernel
theorem dX11_sure_12 : decode cX11_sure 12 = .ok (.getfield 65, 3) := by decide +kernel
theorem dX11_sure_15 : decode cX11_sure 15 = .ok (.iload_n 2, 1) := by decide +kernel
theorem dX11_sure_16 : decode cX11_sure 16 = .ok (.invokestatic 296, 3) := by decide +kernel
theorem dX11_sure_19 : decode cX11_sure 19 = .ok (.aload_n 0, 1) := by decide +kernel
theorem dX11_sure_20 : decode cX11_sure 20 = .ok (.getfield 65, 3) := by decide +kernel
theorem dX11_sure_23 : decode cX11_sure 23 = .ok (.iload_n 3, 1) := by decide +kernel
theorem dX11_sure_24 : decode cX11_sure 24 = .ok (.invokestatic 296, 3) := by decide +kernel
theorem dX11_sure_27 : decode cX11_sure 27 = .ok (.aload_n 0, 1) := by decide +kernel
theorem dX11_sure_28 : decode cX11_sure 28 = .ok (.getfield 65, 3) := by decide +kernel
theorem dX11_sure_31 : decode cX11_sure 31 = .ok (.aload 4, 2) := by decide +kernel
theorem dX11_sure_33 : decode cX11_sure 33 = .ok (.iload_n 2, 1) := by decide +kernel
theorem dX11_sure_34 : decode cX11_sure 34 = .ok (.iload_n 3, 1) := by decide +kernel
theorem dX11_sure_35 : decode cX11_sure 35 = .ok (.invokevirtual 377, 3) := by decide +kernel
theorem dX11_sure_38 : decode cX11_sure 38 = .ok (.ifCond .eq 5, 3) := by decide +kernel
theorem dX11_sure_41 : decode cX11_sure 41 = .ok (.iconst 1, 1) := by decide +kernel
theorem dX11_sure_42 : decode cX11_sure 42 = .ok (.ireturn, 1) := by decide +kernel
theorem dX11_sure_43 : decode cX11_sure 43 = .ok (.aload_n 0, 1) := by decide +kernel
theorem dX11_sure_44 : decode cX11_sure 44 = .ok (.getfield 65, 3) := by decide +kernel
theorem dX11_sure_47 : decode cX11_sure 47 = .ok (.aload 4, 2) := by decide +kernel
theorem dX11_sure_49 : decode cX11_sure 49 = .ok (.iload_n 3, 1) := by decide +kernel
theorem dX11_sure_50 : decode cX11_sure 50 = .ok (.iload_n 2, 1) := by decide +kernel
theorem dX11_sure_51 : decode cX11_sure 51 = .ok (.invokevirtual 377, 3) := by decide +kernel
theorem dX11_sure_54 : decode cX11_sure 54 = .ok (.ifCond .eq 7, 3) := by decide +kernel
theorem dX11_sure_57 : decode cX11_sure 57 = .ok (.iconst (-1), 1) := by decide +kernel
theorem dX11_sure_58 : decode cX11_sure 58 = .ok (.goto 4, 3) := by decide +kernel
theorem dX11_sure_61 : decode cX11_sure 61 = .ok (.iconst 0, 1) := by decide +kernel
theorem dX11_sure_62 : decode cX11_sure 62 = .ok (.ireturn, 1) := by decide +kernel
theorem dX11_before_0 : decode cX11_before 0 = .ok (.aload_n 0, 1) := by decide +kernel
theorem dX11_before_1 : decode cX11_before 1 = .ok (.iload_n 1, 1) := by decide +kernel
theorem dX11_before_2 : decode cX11_before 2 = .ok (.iload_n 2, 1) := by decide +kernel
theorem dX11_before_3 : decode cX11_before 3 = .ok (.invokevirtual 193, 3) := by decide +kernel
theorem dX11_before_6 : decode cX11_before 6 = .ok (.astore 5, 2) := by decide +kernel
theorem dX11_before_8 : decode cX11_before 8 = .ok (.iload 4, 2) := by decide +kernel
theorem dX11_before_10 : decode cX11_before 10 = .ok (.ifCond .lt 21, 3) := by decide +kernel
theorem dX11_before_13 : decode cX11_before 13 = .ok (.iload 4, 2) := by decide +kernel
theorem dX11_before_15 : decode cX11_before 15 = .ok (.iconst 1, 1) := by decide +kernel
theorem dX11_before_16 : decode cX11_before 16 = .ok (.if_icmp .gt 15, 3) := by decide +kernel
theorem dX11_before_19 : decode cX11_before 19 = .ok (.aload 5, 2) := by decide +kernel
theorem dX11_before_21 : decode cX11_before 21 = .ok (.getfield 250, 3) := by decide +kernel
theorem dX11_before_24 : decode cX11_before 24 = .ok (.iload_n 2, 1) := by decide +kernel
theorem dX11_before_25 : decode cX11_before 25 = .ok (.invokevirtual 260, 3) := by decide +kernel
theorem dX11_before_28 : decode cX11_before 28 = .ok (.ifCond .ne 13, 3) := by decide +kernel
theorem dX11_before_31 : decode cX11_before 31 = .ok (.new 186, 3) := by decide +kernel
theorem dX11_before_34 : decode cX11_before 34 = .ok (.dup, 1) := by decide +kernel
theorem dX11_before_35 : decode cX11_before 35 = .ok (.ldc 188, 2) := by decide +kernel
theorem dX11_before_37 : decode cX11_before 37 = .ok (.invokespecial 190, 3) := by decide +kernel
theorem dX11_before_40 : decode cX11_before 40 = .ok (.athrow, 1) := by decide +kernel
theorem dX11_before_41 : decode cX11_before 41 = .ok (.aload 5, 2) := by decide +kernel
theorem dX11_before_43 : decode cX11_before 43 = .ok (.iload_n 2, 1) := by decide +kernel
theorem dX11_before_44 : decode cX11_before 44 = .ok (.invokestatic 270, 3) := by decide +kernel
theorem dX11_before_47 : decode cX11_before 47 = .ok (.iload_n 3, 1) := by decide +kernel
theorem dX11_before_48 : decode cX11_before 48 = .ok (.ifCond .lt 9, 3) := by decide +kernel
theorem dX11_before_51 : decode cX11_before 51 = .ok (.iload_n 3, 1) := by decide +kernel
theorem dX11_before_52 : decode cX11_before 52 = .ok (.bipush 99, 2) := by decide +kernel
theorem dX11_before_54 : decode cX11_before 54 = .ok (.if_icmp .le 14, 3) := by decide +kernel
theorem dX11_before_57 : decode cX11_before 57 = .ok (.new 381, 3) := by decide +kernel
theorem dX11_before_60 : decode cX11_before 60 = .ok (.dup, 1) := by decide +kernel
theorem dX11_before_61 : decode cX11_before 61 = .ok (.ldc_w 383, 3) := by decide +kernel
theorem dX11_before_64 : decode cX11_before 64 = .ok (.invokespecial 385, 3) := by decide +kernel
theorem dX11_before_67 : decode cX11_before 67 = .ok (.athrow, 1) := by decide +kernel
theorem dX11_before_68 : decode cX11_before 68 = .ok (.aload_n 0, 1) := by decide +kernel
theorem dX11_before_69 : decode cX11_before 69 = .ok (.getfield 65, 3) := by decide +kernel
theorem dX11_before_72 : decode cX11_before 72 = .ok (.aload 5, 2) := by decide +kernel
theorem dX11_before_74 : decode cX11_before 74 = .ok (.aload 5, 2) := by decide +kernel
theorem dX11_before_76 : decode cX11_before 76 = .ok (.getfield 250, 3) := by decide +kernel
theorem dX11_before_79 : decode cX11_before 79 = .ok (.aload_n 0, 1) := by decide +kernel
theorem dX11_before_80 : decode cX11_before 80 = .ok (.getfield 31, 3) := by decide +kernel
theorem dX11_before_83 : decode cX11_before 83 = .ok (.invokevirtual 274, 3) := by decide +kernel
theorem dX11_before_86 : decode cX11_before 86 = .ok (.iconst 0, 1) := by decide +kernel
theorem dX11_before_87 : decode cX11_before 87 = .ok (.aload_n 0, 1) := by decide +kernel
theorem dX11_before_88 : decode cX11_before 88 = .ok (.getfield 65, 3) := by decide +kernel
theorem dX11_before_91 : decode cX11_before 91 = .ok (.getfield 278, 3) := by decide +kernel
theorem dX11_before_94 : decode cX11_before 94 = .ok (.iload_n 2, 1) := by decide +kernel
theorem dX11_before_95 : decode cX11_before 95 = .ok (.iaload, 1) := by decide +kernel
theorem dX11_before_96 : decode cX11_before 96 = .ok (.invokestatic 386, 3) := by decide +kernel
theorem dX11_before_99 : decode cX11_before 99 = .ok (.istore 6, 2) := by decide +kernel
theorem dX11_before_101 : decode cX11_before 101 = .ok (.aload_n 0, 1) := by decide +kernel
theorem dX11_before_102 : decode cX11_before 102 = .ok (.getfield 65, 3) := by decide +kernel
theorem dX11_before_105 : decode cX11_before 105 = .ok (.getfield 279, 3) := by decide +kernel
theorem dX11_before_108 : decode cX11_before 108 = .ok (.iload_n 2, 1) := by decide +kernel
theorem dX11_before_109 : decode cX11_before 109 = .ok (.iaload, 1) := by decide +kernel
theorem dX11_before_110 : decode cX11_before 110 = .ok (.istore 7, 2) := by decide +kernel
theorem dX11_before_112 : decode cX11_before 112 = .ok (.iload 6, 2) := by decide +kernel
theorem dX11_before_114 : decode cX11_before 114 = .ok (.iload 7, 2) := by decide +kernel
theorem dX11_before_116 : decode cX11_before 116 = .ok (.if_icmp .le 5, 3) := by decide +kernel
theorem dX11_before_119 : decode cX11_before 119 = .ok (.iconst (-1), 1) := by decide +kernel
theorem dX11_before_120 : decode cX11_before 120 = .ok (.ireturn, 1) := by decide +kernel
theorem dX11_before_121 : decode cX11_before 121 = .ok (.bipush 100, 2) := by decide +kernel
theorem dX11_before_123 : decode cX11_before 123 = .ok (.iload_n 3, 1) := by decide +kernel
theorem dX11_before_124 : decode cX11_before 124 = .ok (.isub, 1) := by decide +kernel
theorem dX11_before_125 : decode cX11_before 125 = .ok (.istore 8, 2) := by decide +kernel
theorem dX11_before_127 : decode cX11_before 127 = .ok (.iload 4, 2) := by decide +kernel
theorem dX11_before_129 : decode cX11_before 129 = .ok (.ifCond .ne 19, 3) := by decide +kernel
theorem dX11_before_132 : decode cX11_before 132 = .ok (.ldc2_w 391, 3) := by decide +kernel
theorem dX11_before_135 : decode cX11_before 135 = .ok (.iload 6, 2) := by decide +kernel
theorem dX11_before_137 : decode cX11_before 137 = .ok (.i2l, 1) := by decide +kernel
theorem dX11_before_138 : decode cX11_before 138 = .ok (.lmul, 1) := by decide +kernel
theorem dX11_before_139 : decode cX11_before 139 = .ok (.iload 8, 2) := by decide +kernel
theorem dX11_before_141 : decode cX11_before 141 = .ok (.i2l, 1) := by decide +kernel
theorem dX11_before_142 : decode cX11_before 142 = .ok (.invokestatic 393, 3) := by decide +kernel
theorem dX11_before_145 : decode cX11_before 145 = .ok (.goto 20, 3) := by decide +kernel
theorem dX11_before_148 : decode cX11_before 148 = .ok (.ldc2_w 391, 3) := by decide +kernel
theorem dX11_before_151 : decode cX11_before 151 = .ok (.iload 7, 2) := by decide +kernel
theorem dX11_before_153 : decode cX11_before 153 = .ok (.i2l, 1) := by decide +kernel
theorem dX11_before_154 : decode cX11_before 154 = .ok (.lconst 1, 1) := by decide +kernel
theorem dX11_before_155 : decode cX11_before 155 = .ok (.ladd, 1) := by decide +kernel
theorem dX11_before_156 : decode cX11_before 156 = .ok (.lmul, 1) := by decide +kernel
theorem dX11_before_157 : decode cX11_before 157 = .ok (.iload 8, 2) := by decide +kernel
theorem dX11_before_159 : decode cX11_before 159 = .ok (.i2l, 1) := by decide +kernel
theorem dX11_before_160 : decode cX11_before 160 = .ok (.invokestatic 393, 3) := by decide +kernel
theorem dX11_before_163 : decode cX11_before 163 = .ok (.iconst 1, 1) := by decide +kernel
theorem dX11_before_164 : decode cX11_before 164 = .ok (.isub, 1) := by decide +kernel
theorem dX11_before_165 : decode cX11_before 165 = .ok (.ireturn, 1) := by decide +kernel
theorem dX11_told_0 : decode cX11_told 0 = .ok (.aload_n 0, 1) := by decide +kernel
theorem dX11_told_1 : decode cX11_told 1 = .ok (.iload_n 1, 1) := by decide +kernel
theorem dX11_told_2 : decode cX11_told 2 = .ok (.invokevirtual 118, 3) := by decide +kernel
theorem dX11_told_5 : decode cX11_told 5 = .ok (.astore 5, 2) := by decide +kernel
theorem dX11_told_7 : decode cX11_told 7 = .ok (.aload_n 0, 1) := by decide +kernel
theorem dX11_told_8 : decode cX11_told 8 = .ok (.iload_n 2, 1) := by decide +kernel
theorem dX11_told_9 : decode cX11_told 9 = .ok (.invokevirtual 140, 3) := by decide +kernel
theorem dX11_told_12 : decode cX11_told 12 = .ok (.pop, 1) := by decide +kernel
theorem dX11_told_13 : decode cX11_told 13 = .ok (.iload_n 3, 1) := by decide +kernel
theorem dX11_told_14 : decode cX11_told 14 = .ok (.iconst 1, 1) := by decide +kernel
theorem dX11_told_15 : decode cX11_told 15 = .ok (.if_icmp .lt 9, 3) := by decide +kernel
theorem dX11_told_18 : decode cX11_told 18 = .ok (.iload_n 3, 1) := by decide +kernel
theorem dX11_told_19 : decode cX11_told 19 = .ok (.bipush 100, 2) := by decide +kernel
theorem dX11_told_21 : decode cX11_told 21 = .ok (.if_icmp .le 14, 3) := by decide +kernel
theorem dX11_told_24 : decode cX11_told 24 = .ok (.new 381, 3) := by decide +kernel
theorem dX11_told_27 : decode cX11_told 27 = .ok (.dup, 1) := by decide +kernel
theorem dX11_told_28 : decode cX11_told 28 = .ok (.ldc_w 397, 3) := by decide +kernel
theorem dX11_told_31 : decode cX11_told 31 = .ok (.invokespecial 385, 3) := by decide +kernel
theorem dX11_told_34 : decode cX11_told 34 = .ok (.athrow, 1) := by decide +kernel
theorem dX11_told_35 : decode cX11_told 35 = .ok (.aload 5, 2) := by decide +kernel
theorem dX11_told_37 : decode cX11_told 37 = .ok (.getfield 164, 3) := by decide +kernel
theorem dX11_told_40 : decode cX11_told 40 = .ok (.iconst 1, 1) := by decide +kernel
theorem dX11_told_41 : decode cX11_told 41 = .ok (.if_icmp .ge 5, 3) := by decide +kernel
theorem dX11_told_44 : decode cX11_told 44 = .ok (.iconst 0, 1) := by decide +kernel
theorem dX11_told_45 : decode cX11_told 45 = .ok (.ireturn, 1) := by decide +kernel
theorem dX11_told_46 : decode cX11_told 46 = .ok (.aload_n 0, 1) := by decide +kernel
theorem dX11_told_47 : decode cX11_told 47 = .ok (.aload 5, 2) := by decide +kernel
theorem dX11_told_49 : decode cX11_told 49 = .ok (.invokevirtual 243, 3) := by decide +kernel
theorem dX11_told_52 : decode cX11_told 52 = .ok (.iload 4, 2) := by decide +kernel
theorem dX11_told_54 : decode cX11_told 54 = .ok (.istore 6, 2) := by decide +kernel
theorem dX11_told_56 : decode cX11_told 56 = .ok (.iconst 0, 1) := by decide +kernel
theorem dX11_told_57 : decode cX11_told 57 = .ok (.istore 7, 2) := by decide +kernel
theorem dX11_told_59 : decode cX11_told 59 = .ok (.iconst 0, 1) := by decide +kernel
theorem dX11_told_60 : decode cX11_told 60 = .ok (.istore 8, 2) := by decide +kernel
theorem dX11_told_62 : decode cX11_told 62 = .ok (.iload 8, 2) := by decide +kernel
theorem dX11_told_64 : decode cX11_told 64 = .ok (.iload_n 3, 1) := by decide +kernel
theorem dX11_told_65 : decode cX11_told 65 = .ok (.if_icmp .ge 75, 3) := by decide +kernel
theorem dX11_told_68 : decode cX11_told 68 = .ok (.aload_n 0, 1) := by decide +kernel
theorem dX11_told_69 : decode cX11_told 69 = .ok (.aload 5, 2) := by decide +kernel
theorem dX11_told_71 : decode cX11_told 71 = .ok (.iload 6, 2) := by decide +kernel
theorem dX11_told_73 : decode cX11_told 73 = .ok (.invokevirtual 399, 3) := by decide +kernel
theorem dX11_told_76 : decode cX11_told 76 = .ok (.istore 6, 2) := by decide +kernel
theorem dX11_told_78 : decode cX11_told 78 = .ok (.aload_n 0, 1) := by decide +kernel
theorem dX11_told_79 : decode cX11_told 79 = .ok (.getfield 103, 3) := by decide +kernel
theorem dX11_told_82 : decode cX11_told 82 = .ok (.aload 5, 2) := by decide +kernel
theorem dX11_told_84 : decode cX11_told 84 = .ok (.getfield 164, 3) := by decide +kernel
theorem dX11_told_87 : decode cX11_told 87 = .ok (.invokevirtual 402, 3) := by decide +kernel
theorem dX11_told_90 : decode cX11_told 90 = .ok (.ifCond .eq 44, 3) := by decide +kernel
theorem dX11_told_93 : decode cX11_told 93 = .ok (.aload_n 0, 1) := by decide +kernel
theorem dX11_told_94 : decode cX11_told 94 = .ok (.getfield 65, 3) := by decide +kernel
theorem dX11_told_97 : decode cX11_told 97 = .ok (.aload 5, 2) := by decide +kernel
theorem dX11_told_99 : decode cX11_told 99 = .ok (.aload_n 0, 1) := by decide +kernel
theorem dX11_told_100 : decode cX11_told 100 = .ok (.getfield 103, 3) := by decide +kernel
theorem dX11_told_103 : decode cX11_told 103 = .ok (.aload_n 0, 1) := by decide +kernel
theorem dX11_told_104 : decode cX11_told 104 = .ok (.getfield 31, 3) := by decide +kernel
theorem dX11_told_107 : decode cX11_told 107 = .ok (.invokevirtual 274, 3) := by decide +kernel
theorem dX11_told_110 : decode cX11_told 110 = .ok (.iload 7, 2) := by decide +kernel
theorem dX11_told_112 : decode cX11_told 112 = .ok (.aload_n 0, 1) := by decide +kernel
theorem dX11_told_113 : decode cX11_told 113 = .ok (.aload 5, 2) := by decide +kernel
theorem dX11_told_115 : decode cX11_told 115 = .ok (.aload_n 0, 1) := by decide +kernel
theorem dX11_told_116 : decode cX11_told 116 = .ok (.getfield 65, 3) := by decide +kernel
theorem dX11_told_119 : decode cX11_told 119 = .ok (.invokevirtual 332, 3) := by decide +kernel
theorem dX11_told_122 : decode cX11_told 122 = .ok (.iload_n 2, 1) := by decide +kernel
theorem dX11_told_123 : decode cX11_told 123 = .ok (.if_icmp .ne 7, 3) := by decide +kernel
theorem dX11_told_126 : decode cX11_told 126 = .ok (.iconst 1, 1) := by decide +kernel
theorem dX11_told_127 : decode cX11_told 127 = .ok (.goto 4, 3) := by decide +kernel
theorem dX11_told_130 : decode cX11_told 130 = .ok (.iconst 0, 1) := by decide +kernel
theorem dX11_told_131 : decode cX11_told 131 = .ok (.iadd, 1) := by decide +kernel
theorem dX11_told_132 : decode cX11_told 132 = .ok (.istore 7, 2) := by decide +kernel
theorem dX11_told_134 : decode cX11_told 134 = .ok (.iinc 8 1, 3) := by decide +kernel
theorem dX11_told_137 : decode cX11_told 137 = .ok (.goto (-75), 3) := by decide +kernel
theorem dX11_told_140 : decode cX11_told 140 = .ok (.iload 7, 2) := by decide +kernel
theorem dX11_told_142 : decode cX11_told 142 = .ok (.ireturn, 1) := by decide +kernel
theorem dX11_next_0 : decode cX11_next 0 = .ok (.aload_n 0, 1) := by decide +kernel
theorem dX11_next_1 : decode cX11_next 1 = .ok (.iload_n 1, 1) := by decide +kernel
theorem dX11_next_2 : decode cX11_next 2 = .ok (.invokevirtual 118, 3) := by decide +kernel
theorem dX11_next_5 : decode cX11_next 5 = .ok (.astore_n 2, 1) := by decide +kernel
theorem dX11_next_6 : decode cX11_next 6 = .ok (.iconst 0, 1) := by decide +kernel
theorem dX11_next_7 : decode cX11_next 7 = .ok (.istore_n 3, 1) := by decide +kernel
theorem dX11_next_8 : decode cX11_next 8 = .ok (.iload_n 3, 1) := by decide +kernel
theorem dX11_next_9 : decode cX11_next 9 = .ok (.aload_n 2, 1) := by decide +kernel
theorem dX11_next_10 : decode cX11_next 10 = .ok (.getfield 164, 3) := by decide +kernel
theorem dX11_next_13 : decode cX11_next 13 = .ok (.if_icmp .ge 22, 3) := by decide +kernel
theorem dX11_next_16 : decode cX11_next 16 = .ok (.aload_n 2, 1) := by decide +kernel
theorem dX11_next_17 : decode cX11_next 17 = .ok (.getfield 250, 3) := by decide +kernel
theorem dX11_next_20 : decode cX11_next 20 = .ok (.iload_n 3, 1) := by decide +kernel
theorem dX11_next_21 : decode cX11_next 21 = .ok (.invokevirtual 260, 3) := by decide +kernel
theorem dX11_next_24 : decode cX11_next 24 = .ok (.ifCond .ne 5, 3) := by decide +kernel
theorem dX11_next_27 : decode cX11_next 27 = .ok (.iload_n 3, 1) := by decide +kernel
theorem dX11_next_28 : decode cX11_next 28 = .ok (.ireturn, 1) := by decide +kernel
theorem dX11_next_29 : decode cX11_next 29 = .ok (.iinc 3 1, 3) := by decide +kernel
theorem dX11_next_32 : decode cX11_next 32 = .ok (.goto (-24), 3) := by decide +kernel
theorem dX11_next_35 : decode cX11_next 35 = .ok (.aload_n 0, 1) := by decide +kernel
theorem dX11_next_36 : decode cX11_next 36 = .ok (.getfield 65, 3) := by decide +kernel
theorem dX11_next_39 : decode cX11_next 39 = .ok (.aload_n 2, 1) := by decide +kernel
theorem dX11_next_40 : decode cX11_next 40 = .ok (.aload_n 2, 1) := by decide +kernel
theorem dX11_next_41 : decode cX11_next 41 = .ok (.getfield 250, 3) := by decide +kernel
theorem dX11_next_44 : decode cX11_next 44 = .ok (.aload_n 0, 1) := by decide +kernel
theorem dX11_next_45 : decode cX11_next 45 = .ok (.getfield 31, 3) := by decide +kernel
theorem dX11_next_48 : decode cX11_next 48 = .ok (.invokevirtual 274, 3) := by decide +kernel
theorem dX11_next_51 : decode cX11_next 51 = .ok (.aload_n 0, 1) := by decide +kernel
theorem dX11_next_52 : decode cX11_next 52 = .ok (.getfield 65, 3) := by decide +kernel
theorem dX11_next_55 : decode cX11_next 55 = .ok (.aload_n 2, 1) := by decide +kernel
theorem dX11_next_56 : decode cX11_next 56 = .ok (.invokevirtual 405, 3) := by decide +kernel
theorem dX11_next_59 : decode cX11_next 59 = .ok (.ireturn, 1) := by decide +kernel
theorem dX11_image_0 : decode cX11_image 0 = .ok (.iconst 0, 1) := by decide +kernel
theorem dX11_image_1 : decode cX11_image 1 = .ok (.istore_n 1, 1) := by decide +kernel
theorem dX11_image_2 : decode cX11_image 2 = .ok (.iload_n 1, 1) := by decide +kernel
theorem dX11_image_3 : decode cX11_image 3 = .ok (.bipush 6, 2) := by decide +kernel
theorem dX11_image_5 : decode cX11_image 5 = .ok (.if_icmp .ge 30, 3) := by decide +kernel
theorem dX11_image_8 : decode cX11_image 8 = .ok (.aload_n 0, 1) := by decide +kernel
theorem dX11_image_9 : decode cX11_image 9 = .ok (.getfield 18, 3) := by decide +kernel
theorem dX11_image_12 : decode cX11_image 12 = .ok (.iload_n 1, 1) := by decide +kernel
theorem dX11_image_13 : decode cX11_image 13 = .ok (.aaload, 1) := by decide +kernel
theorem dX11_image_14 : decode cX11_image 14 = .ok (.getfield 409, 3) := by decide +kernel
theorem dX11_image_17 : decode cX11_image 17 = .ok (.aload_n 0, 1) := by decide +kernel
theorem dX11_image_18 : decode cX11_image 18 = .ok (.getfield 18, 3) := by decide +kernel
theorem dX11_image_21 : decode cX11_image 21 = .ok (.iload_n 1, 1) := by decide +kernel
theorem dX11_image_22 : decode cX11_image 22 = .ok (.aaload, 1) := by decide +kernel
theorem dX11_image_23 : decode cX11_image 23 = .ok (.getfield 250, 3) := by decide +kernel
theorem dX11_image_26 : decode cX11_image 26 = .ok (.invokevirtual 412, 3) := by decide +kernel
theorem dX11_image_29 : decode cX11_image 29 = .ok (.iinc 1 1, 3) := by decide +kernel
theorem dX11_image_32 : decode cX11_image 32 = .ok (.goto (-30), 3) := by decide +kernel
theorem dX11_image_35 : decode cX11_image 35 = .ok (.aload_n 0, 1) := by decide +kernel
theorem dX11_image_36 : decode cX11_image 36 = .ok (.getfield 55, 3) := by decide +kernel
theorem dX11_image_39 : decode cX11_image 39 = .ok (.iconst 0, 1) := by decide +kernel
theorem dX11_image_40 : decode cX11_image 40 = .ok (.aload_n 0, 1) := by decide +kernel
theorem dX11_image_41 : decode cX11_image 41 = .ok (.getfield 59, 3) := by decide +kernel
theorem dX11_image_44 : decode cX11_image 44 = .ok (.iconst 0, 1) := by decide +kernel
theorem dX11_image_45 : decode cX11_image 45 = .ok (.iconst 4, 1) := by decide +kernel
theorem dX11_image_46 : decode cX11_image 46 = .ok (.invokestatic 416, 3) := by decide +kernel
theorem dX11_image_49 : decode cX11_image 49 = .ok (.aload_n 0, 1) := by decide +kernel
theorem dX11_image_50 : decode cX11_image 50 = .ok (.iconst 1, 1) := by decide +kernel
theorem dX11_image_51 : decode cX11_image 51 = .ok (.putfield 422, 3) := by decide +kernel
theorem dX11_image_54 : decode cX11_image 54 = .ok (.return_, 1) := by decide +kernel
theorem dX11_restore_0 : decode cX11_restore 0 = .ok (.aload_n 0, 1) := by decide +kernel
theorem dX11_restore_1 : decode cX11_restore 1 = .ok (.getfield 422, 3) := by decide +kernel
theorem dX11_restore_4 : decode cX11_restore 4 = .ok (.ifCond .ne 5, 3) := by decide +kernel
theorem dX11_restore_7 : decode cX11_restore 7 = .ok (.iconst 0, 1) := by decide +kernel
theorem dX11_restore_8 : decode cX11_restore 8 = .ok (.ireturn, 1) := by decide +kernel
theorem dX11_restore_9 : decode cX11_restore 9 = .ok (.iconst 0, 1) := by decide +kernel
theorem dX11_restore_10 : decode cX11_restore 10 = .ok (.istore_n 1, 1) := by decide +kernel
theorem dX11_restore_11 : decode cX11_restore 11 = .ok (.iload_n 1, 1) := by decide +kernel
theorem dX11_restore_12 : decode cX11_restore 12 = .ok (.bipush 6, 2) := by decide +kernel
theorem dX11_restore_14 : decode cX11_restore 14 = .ok (.if_icmp .ge 30, 3) := by decide +kernel
theorem dX11_restore_17 : decode cX11_restore 17 = .ok (.aload_n 0, 1) := by decide +kernel
theorem dX11_restore_18 : decode cX11_restore 18 = .ok (.getfield 18, 3) := by decide +kernel
theorem dX11_restore_21 : decode cX11_restore 21 = .ok (.iload_n 1, 1) := by decide +kernel
theorem dX11_restore_22 : decode cX11_restore 22 = .ok (.aaload, 1) := by decide +kernel
theorem dX11_restore_23 : decode cX11_restore 23 = .ok (.getfield 250, 3) := by decide +kernel
theorem dX11_restore_26 : decode cX11_restore 26 = .ok (.aload_n 0, 1) := by decide +kernel
theorem dX11_restore_27 : decode cX11_restore 27 = .ok (.getfield 18, 3) := by decide +kernel
theorem dX11_restore_30 : decode cX11_restore 30 = .ok (.iload_n 1, 1) := by decide +kernel
theorem dX11_restore_31 : decode cX11_restore 31 = .ok (.aaload, 1) := by decide +kernel
theorem dX11_restore_32 : decode cX11_restore 32 = .ok (.getfield 409, 3) := by decide +kernel
theorem dX11_restore_35 : decode cX11_restore 35 = .ok (.invokevirtual 412, 3) := by decide +kernel
theorem dX11_restore_38 : decode cX11_restore 38 = .ok (.iinc 1 1, 3) := by decide +kernel
theorem dX11_restore_41 : decode cX11_restore 41 = .ok (.goto (-30), 3) := by decide +kernel
theorem dX11_restore_44 : decode cX11_restore 44 = .ok (.aload_n 0, 1) := by decide +kernel
theorem dX11_restore_45 : decode cX11_restore 45 = .ok (.getfield 59, 3) := by decide +kernel
theorem dX11_restore_48 : decode cX11_restore 48 = .ok (.iconst 0, 1) := by decide +kernel
theorem dX11_restore_49 : decode cX11_restore 49 = .ok (.aload_n 0, 1) := by decide +kernel
theorem dX11_restore_50 : decode cX11_restore 50 = .ok (.getfield 55, 3) := by decide +kernel
theorem dX11_restore_53 : decode cX11_restore 53 = .ok (.iconst 0, 1) := by decide +kernel
theorem dX11_restore_54 : decode cX11_restore 54 = .ok (.iconst 4, 1) := by decide +kernel
theorem dX11_restore_55 : decode cX11_restore 55 = .ok (.invokestatic 416, 3) := by decide +kernel
theorem dX11_restore_58 : decode cX11_restore 58 = .ok (.iconst 1, 1) := by decide +kernel
theorem dX11_restore_59 : decode cX11_restore 59 = .ok (.ireturn, 1) := by decide +kernel
theorem dX11_bookAt_0 : decode cX11_bookAt 0 = .ok (.iload_n 1, 1) := by decide +kernel
theorem dX11_bookAt_1 : decode cX11_bookAt 1 = .ok (.ifCond .lt 9, 3) := by decide +kernel
theorem dX11_bookAt_4 : decode cX11_bookAt 4 = .ok (.iload_n 1, 1) := by decide +kernel
theorem dX11_bookAt_5 : decode cX11_bookAt 5 = .ok (.bipush 6, 2) := by decide +kernel
theorem dX11_bookAt_7 : decode cX11_bookAt 7 = .ok (.if_icmp .lt 14, 3) := by decide +kernel
theorem dX11_bookAt_10 : decode cX11_bookAt 10 = .ok (.new 186, 3) := by decide +kernel
theorem dX11_bookAt_13 : decode cX11_bookAt 13 = .ok (.dup, 1) := by decide +kernel
theorem dX11_bookAt_14 : decode cX11_bookAt 14 = .ok (.ldc_w 425, 3) := by decide +kernel
theorem dX11_bookAt_17 : decode cX11_bookAt 17 = .ok (.invokespecial 190, 3) := by decide +kernel
theorem dX11_bookAt_20 : decode cX11_bookAt 20 = .ok (.athrow, 1) := by decide +kernel
theorem dX11_bookAt_21 : decode cX11_bookAt 21 = .ok (.aload_n 0, 1) := by decide +kernel
theorem dX11_bookAt_22 : decode cX11_bookAt 22 = .ok (.getfield 18, 3) := by decide +kernel
theorem dX11_bookAt_25 : decode cX11_bookAt 25 = .ok (.iload_n 1, 1) := by decide +kernel
theorem dX11_bookAt_26 : decode cX11_bookAt 26 = .ok (.aaload, 1) := by decide +kernel
theorem dX11_bookAt_27 : decode cX11_bookAt 27 = .ok (.areturn, 1) := by decide +kernel
theorem dX11_bookWithLeaf_0 : decode cX11_bookWithLeaf 0 = .ok (.aload_n 0, 1) := by decide +kernel
theorem dX11_bookWithLeaf_1 : decode cX11_bookWithLeaf 1 = .ok (.iload_n 1, 1) := by decide +kernel
theorem dX11_bookWithLeaf_2 : decode cX11_bookWithLeaf 2 = .ok (.invokevirtual 118, 3) := by decide +kernel
theorem dX11_bookWithLeaf_5 : decode cX11_bookWithLeaf 5 = .ok (.astore_n 3, 1) := by decide +kernel
theorem dX11_bookWithLeaf_6 : decode cX11_bookWithLeaf 6 = .ok (.iload_n 2, 1) := by decide +kernel
theorem dX11_bookWithLeaf_7 : decode cX11_bookWithLeaf 7 = .ok (.ifCond .lt 11, 3) := by decide +kernel
theorem dX11_bookWithLeaf_10 : decode cX11_bookWithLeaf 10 = .ok (.iload_n 2, 1) := by decide +kernel
theorem dX11_bookWithLeaf_11 : decode cX11_bookWithLeaf 11 = .ok (.aload_n 3, 1) := by decide +kernel
theorem dX11_bookWithLeaf_12 : decode cX11_bookWithLeaf 12 = .ok (.getfield 164, 3) := by decide +kernel
theorem dX11_bookWithLeaf_15 : decode cX11_bookWithLeaf 15 = .ok (.if_icmp .lt 14, 3) := by decide +kernel
theorem dX11_bookWithLeaf_18 : decode cX11_bookWithLeaf 18 = .ok (.new 186, 3) := by decide +kernel
theorem dX11_bookWithLeaf_21 : decode cX11_bookWithLeaf 21 = .ok (.dup, 1) := by decide +kernel
theorem dX11_bookWithLeaf_22 : decode cX11_bookWithLeaf 22 = .ok (.ldc_w 427, 3) := by decide +kernel
theorem dX11_bookWithLeaf_25 : decode cX11_bookWithLeaf 25 = .ok (.invokespecial 190, 3) := by decide +kernel
theorem dX11_bookWithLeaf_28 : decode cX11_bookWithLeaf 28 = .ok (.athrow, 1) := by decide +kernel
theorem dX11_bookWithLeaf_29 : decode cX11_bookWithLeaf 29 = .ok (.aload_n 3, 1) := by decide +kernel
theorem dX11_bookWithLeaf_30 : decode cX11_bookWithLeaf 30 = .ok (.areturn, 1) := by decide +kernel
theorem dX11_knownAt_0 : decode cX11_knownAt 0 = .ok (.aload_n 0, 1) := by decide +kernel
theorem dX11_knownAt_1 : decode cX11_knownAt 1 = .ok (.iload_n 1, 1) := by decide +kernel
theorem dX11_knownAt_2 : decode cX11_knownAt 2 = .ok (.invokevirtual 118, 3) := by decide +kernel
theorem dX11_knownAt_5 : decode cX11_knownAt 5 = .ok (.astore_n 3, 1) := by decide +kernel
theorem dX11_knownAt_6 : decode cX11_knownAt 6 = .ok (.aload_n 3, 1) := by decide +kernel
theorem dX11_knownAt_7 : decode cX11_knownAt 7 = .ok (.invokevirtual 176, 3) := by decide +kernel
theorem dX11_knownAt_10 : decode cX11_knownAt 10 = .ok (.ifCond .ne 14, 3) := by decide +kernel
theorem dX11_knownAt_13 : decode cX11_knownAt 13 = .ok (.new 186, 3) := by decide +kernel
theorem dX11_knownAt_16 : decode cX11_knownAt 16 = .ok (.dup, 1) := by decide +kernel
theorem dX11_knownAt_17 : decode cX11_knownAt 17 = .ok (.ldc_w 429, 3) := by decide +kernel
theorem dX11_knownAt_20 : decode cX11_knownAt 20 = .ok (.invokespecial 190, 3) := by decide +kernel
theorem dX11_knownAt_23 : decode cX11_knownAt 23 = .ok (.athrow, 1) := by decide +kernel
theorem dX11_knownAt_24 : decode cX11_knownAt 24 = .ok (.aload_n 2, 1) := by decide +kernel
theorem dX11_knownAt_25 : decode cX11_knownAt 25 = .ok (.aload_n 3, 1) := by decide +kernel
theorem dX11_knownAt_26 : decode cX11_knownAt 26 = .ok (.aload_n 3, 1) := by decide +kernel
theorem dX11_knownAt_27 : decode cX11_knownAt 27 = .ok (.getfield 250, 3) := by decide +kernel
theorem dX11_knownAt_30 : decode cX11_knownAt 30 = .ok (.aload_n 0, 1) := by decide +kernel
theorem dX11_knownAt_31 : decode cX11_knownAt 31 = .ok (.getfield 31, 3) := by decide +kernel
theorem dX11_knownAt_34 : decode cX11_knownAt 34 = .ok (.invokevirtual 274, 3) := by decide +kernel
theorem dX11_knownAt_37 : decode cX11_knownAt 37 = .ok (.aload_n 3, 1) := by decide +kernel
theorem dX11_knownAt_38 : decode cX11_knownAt 38 = .ok (.areturn, 1) := by decide +kernel
theorem dX11_wayAt_0 : decode cX11_wayAt 0 = .ok (.iload_n 1, 1) := by decide +kernel
theorem dX11_wayAt_1 : decode cX11_wayAt 1 = .ok (.ifCond .lt 9, 3) := by decide +kernel
theorem dX11_wayAt_4 : decode cX11_wayAt 4 = .ok (.iload_n 1, 1) := by decide +kernel
theorem dX11_wayAt_5 : decode cX11_wayAt 5 = .ok (.bipush 6, 2) := by decide +kernel
theorem dX11_wayAt_7 : decode cX11_wayAt 7 = .ok (.if_icmp .lt 14, 3) := by decide +kernel
theorem dX11_wayAt_10 : decode cX11_wayAt 10 = .ok (.new 186, 3) := by decide +kernel
theorem dX11_wayAt_13 : decode cX11_wayAt 13 = .ok (.dup, 1) := by decide +kernel
theorem dX11_wayAt_14 : decode cX11_wayAt 14 = .ok (.ldc_w 431, 3) := by decide +kernel
theorem dX11_wayAt_17 : decode cX11_wayAt 17 = .ok (.invokespecial 190, 3) := by decide +kernel
theorem dX11_wayAt_20 : decode cX11_wayAt 20 = .ok (.athrow, 1) := by decide +kernel
theorem dX11_wayAt_21 : decode cX11_wayAt 21 = .ok (.aload_n 0, 1) := by decide +kernel
theorem dX11_wayAt_22 : decode cX11_wayAt 22 = .ok (.getfield 24, 3) := by decide +kernel
theorem dX11_wayAt_25 : decode cX11_wayAt 25 = .ok (.iload_n 1, 1) := by decide +kernel
theorem dX11_wayAt_26 : decode cX11_wayAt 26 = .ok (.aaload, 1) := by decide +kernel
theorem dX11_wayAt_27 : decode cX11_wayAt 27 = .ok (.areturn, 1) := by decide +kernel
theorem dX11_statusAt_0 : decode cX11_statusAt 0 = .ok (.iload_n 1, 1) := by decide +kernel
theorem dX11_statusAt_1 : decode cX11_statusAt 1 = .ok (.ifCond .lt 8, 3) := by decide +kernel
theorem dX11_statusAt_4 : decode cX11_statusAt 4 = .ok (.iload_n 1, 1) := by decide +kernel
theorem dX11_statusAt_5 : decode cX11_statusAt 5 = .ok (.iconst 4, 1) := by decide +kernel
theorem dX11_statusAt_6 : decode cX11_statusAt 6 = .ok (.if_icmp .lt 13, 3) := by decide +kernel
theorem dX11_statusAt_9 : decode cX11_statusAt 9 = .ok (.new 186, 3) := by decide +kernel
theorem dX11_statusAt_12 : decode cX11_statusAt 12 = .ok (.dup, 1) := by decide +kernel
theorem dX11_statusAt_13 : decode cX11_statusAt 13 = .ok (.ldc 188, 2) := by decide +kernel
theorem dX11_statusAt_15 : decode cX11_statusAt 15 = .ok (.invokespecial 190, 3) := by decide +kernel
theorem dX11_statusAt_18 : decode cX11_statusAt 18 = .ok (.athrow, 1) := by decide +kernel
theorem dX11_statusAt_19 : decode cX11_statusAt 19 = .ok (.aload_n 0, 1) := by decide +kernel
theorem dX11_statusAt_20 : decode cX11_statusAt 20 = .ok (.getfield 55, 3) := by decide +kernel
theorem dX11_statusAt_23 : decode cX11_statusAt 23 = .ok (.iload_n 1, 1) := by decide +kernel
theorem dX11_statusAt_24 : decode cX11_statusAt 24 = .ok (.iaload, 1) := by decide +kernel
theorem dX11_statusAt_25 : decode cX11_statusAt 25 = .ok (.ireturn, 1) := by decide +kernel
theorem dX11_checkKind_0 : decode cX11_checkKind 0 = .ok (.iload_n 0, 1) := by decide +kernel
theorem dX11_checkKind_1 : decode cX11_checkKind 1 = .ok (.ifCond .lt 9, 3) := by decide +kernel
theorem dX11_checkKind_4 : decode cX11_checkKind 4 = .ok (.iload_n 0, 1) := by decide +kernel
theorem dX11_checkKind_5 : decode cX11_checkKind 5 = .ok (.bipush 12, 2) := by decide +kernel
theorem dX11_checkKind_7 : decode cX11_checkKind 7 = .ok (.if_icmp .lt 14, 3) := by decide +kernel
theorem dX11_checkKind_10 : decode cX11_checkKind 10 = .ok (.new 186, 3) := by decide +kernel
theorem dX11_checkKind_13 : decode cX11_checkKind 13 = .ok (.dup, 1) := by decide +kernel
theorem dX11_checkKind_14 : decode cX11_checkKind 14 = .ok (.ldc_w 433, 3) := by decide +kernel
theorem dX11_checkKind_17 : decode cX11_checkKind 17 = .ok (.invokespecial 190, 3) := by decide +kernel
theorem dX11_checkKind_20 : decode cX11_checkKind 20 = .ok (.athrow, 1) := by decide +kernel
theorem dX11_checkKind_21 : decode cX11_checkKind 21 = .ok (.return_, 1) := by decide +kernel
theorem dX11_checkHeld_0 : decode cX11_checkHeld 0 = .ok (.iload_n 1, 1) := by decide +kernel
theorem dX11_checkHeld_1 : decode cX11_checkHeld 1 = .ok (.ifCond .lt 19, 3) := by decide +kernel
theorem dX11_checkHeld_4 : decode cX11_checkHeld 4 = .ok (.iload_n 1, 1) := by decide +kernel
theorem dX11_checkHeld_5 : decode cX11_checkHeld 5 = .ok (.bipush 12, 2) := by decide +kernel
theorem dX11_checkHeld_7 : decode cX11_checkHeld 7 = .ok (.if_icmp .ge 13, 3) := by decide +kernel
theorem dX11_checkHeld_10 : decode cX11_checkHeld 10 = .ok (.aload_n 0, 1) := by decide +kernel
theorem dX11_checkHeld_11 : decode cX11_checkHeld 11 = .ok (.getfield 435, 3) := by decide +kernel
theorem dX11_checkHeld_14 : decode cX11_checkHeld 14 = .ok (.iload_n 1, 1) := by decide +kernel
theorem dX11_checkHeld_15 : decode cX11_checkHeld 15 = .ok (.iaload, 1) := by decide +kernel
theorem dX11_checkHeld_16 : decode cX11_checkHeld 16 = .ok (.iconst 1, 1) := by decide +kernel
theorem dX11_checkHeld_17 : decode cX11_checkHeld 17 = .ok (.if_icmp .ge 14, 3) := by decide +kernel
theorem dX11_checkHeld_20 : decode cX11_checkHeld 20 = .ok (.new 186, 3) := by decide +kernel
theorem dX11_checkHeld_23 : decode cX11_checkHeld 23 = .ok (.dup, 1) := by decide +kernel
theorem dX11_checkHeld_24 : decode cX11_checkHeld 24 = .ok (.ldc_w 433, 3) := by decide +kernel
theorem dX11_checkHeld_27 : decode cX11_checkHeld 27 = .ok (.invokespecial 190, 3) := by decide +kernel
theorem dX11_checkHeld_30 : decode cX11_checkHeld 30 = .ok (.athrow, 1) := by decide +kernel
theorem dX11_checkHeld_31 : decode cX11_checkHeld 31 = .ok (.return_, 1) := by decide +kernel
theorem dX11_checkAheadRead_0 : decode cX11_checkAheadRead 0 = .ok (.iload_n 1, 1) := by decide +kernel
theorem dX11_checkAheadRead_1 : decode cX11_checkAheadRead 1 = .ok (.ifCond .le 27, 3) := by decide +kernel
theorem dX11_checkAheadRead_4 : decode cX11_checkAheadRead 4 = .ok (.aload_n 0, 1) := by decide +kernel
theorem dX11_checkAheadRead_5 : decode cX11_checkAheadRead 5 = .ok (.getfield 250, 3) := by decide +kernel
theorem dX11_checkAheadRead_8 : decode cX11_checkAheadRead 8 = .ok (.iload_n 1, 1) := by decide +kernel
theorem dX11_checkAheadRead_9 : decode cX11_checkAheadRead 9 = .ok (.iconst 1, 1) := by decide +kernel
theorem dX11_checkAheadRead_10 : decode cX11_checkAheadRead 10 = .ok (.isub, 1) := by decide +kernel
theorem dX11_checkAheadRead_11 : decode cX11_checkAheadRead 11 = .ok (.invokevirtual 260, 3) := by decide +kernel
theorem dX11_checkAheadRead_14 : decode cX11_checkAheadRead 14 = .ok (.ifCond .ne 14, 3) := by decide +kernel
theorem dX11_checkAheadRead_17 : decode cX11_checkAheadRead 17 = .ok (.new 186, 3) := by decide +kernel
theorem dX11_checkAheadRead_20 : decode cX11_checkAheadRead 20 = .ok (.dup, 1) := by decide +kernel
theorem dX11_checkAheadRead_21 : decode cX11_checkAheadRead 21 = .ok (.ldc_w 438, 3) := by decide +kernel
theorem dX11_checkAheadRead_24 : decode cX11_checkAheadRead 24 = .ok (.invokespecial 190, 3) := by decide +kernel
theorem dX11_checkAheadRead_27 : decode cX11_checkAheadRead 27 = .ok (.athrow, 1) := by decide +kernel
theorem dX11_checkAheadRead_28 : decode cX11_checkAheadRead 28 = .ok (.return_, 1) := by decide +kernel
theorem dX11_checkOnTape_0 : decode cX11_checkOnTape 0 = .ok (.iload_n 1, 1) := by decide +kernel
theorem dX11_checkOnTape_1 : decode cX11_checkOnTape 1 = .ok (.ifCond .lt 14, 3) := by decide +kernel
theorem dX11_checkOnTape_4 : decode cX11_checkOnTape 4 = .ok (.iload_n 1, 1) := by decide +kernel
theorem dX11_checkOnTape_5 : decode cX11_checkOnTape 5 = .ok (.aload_n 0, 1) := by decide +kernel
theorem dX11_checkOnTape_6 : decode cX11_checkOnTape 6 = .ok (.getfield 10, 3) := by decide +kernel
theorem dX11_checkOnTape_9 : decode cX11_checkOnTape 9 = .ok (.getfield 110, 3) := by decide +kernel
theorem dX11_checkOnTape_12 : decode cX11_checkOnTape 12 = .ok (.if_icmp .le 14, 3) := by decide +kernel
theorem dX11_checkOnTape_15 : decode cX11_checkOnTape 15 = .ok (.new 381, 3) := by decide +kernel
theorem dX11_checkOnTape_18 : decode cX11_checkOnTape 18 = .ok (.dup, 1) := by decide +kernel
theorem dX11_checkOnTape_19 : decode cX11_checkOnTape 19 = .ok (.ldc_w 440, 3) := by decide +kernel
theorem dX11_checkOnTape_22 : decode cX11_checkOnTape 22 = .ok (.invokespecial 385, 3) := by decide +kernel
theorem dX11_checkOnTape_25 : decode cX11_checkOnTape 25 = .ok (.athrow, 1) := by decide +kernel
theorem dX11_checkOnTape_26 : decode cX11_checkOnTape 26 = .ok (.return_, 1) := by decide +kernel
theorem dX11_written_0 : decode cX11_written 0 = .ok (.aload_n 0, 1) := by decide +kernel
theorem dX11_written_1 : decode cX11_written 1 = .ok (.getfield 10, 3) := by decide +kernel
theorem dX11_written_4 : decode cX11_written 4 = .ok (.iconst 0, 1) := by decide +kernel
theorem dX11_written_5 : decode cX11_written 5 = .ok (.putfield 110, 3) := by decide +kernel
theorem dX11_written_8 : decode cX11_written 8 = .ok (.aload_n 0, 1) := by decide +kernel
theorem dX11_written_9 : decode cX11_written 9 = .ok (.getfield 10, 3) := by decide +kernel
theorem dX11_written_12 : decode cX11_written 12 = .ok (.getfield 132, 3) := by decide +kernel
theorem dX11_written_15 : decode cX11_written 15 = .ok (.ifCond .eq 13, 3) := by decide +kernel
theorem dX11_written_18 : decode cX11_written 18 = .ok (.aload_n 0, 1) := by decide +kernel
theorem dX11_written_19 : decode cX11_written 19 = .ok (.getfield 55, 3) := by decide +kernel
theorem dX11_written_22 : decode cX11_written 22 = .ok (.iconst 0, 1) := by decide +kernel
theorem dX11_written_23 : decode cX11_written 23 = .ok (.dup2, 1) := by decide +kernel
theorem dX11_written_24 : decode cX11_written 24 = .ok (.iaload, 1) := by decide +kernel
theorem dX11_written_25 : decode cX11_written 25 = .ok (.iconst 1, 1) := by decide +kernel
theorem dX11_written_26 : decode cX11_written 26 = .ok (.iadd, 1) := by decide +kernel
theorem dX11_written_27 : decode cX11_written 27 = .ok (.iastore, 1) := by decide +kernel
theorem dX11_written_28 : decode cX11_written 28 = .ok (.aload_n 0, 1) := by decide +kernel
theorem dX11_written_29 : decode cX11_written 29 = .ok (.getfield 10, 3) := by decide +kernel
theorem dX11_written_32 : decode cX11_written 32 = .ok (.getfield 132, 3) := by decide +kernel
theorem dX11_written_35 : decode cX11_written 35 = .ok (.ireturn, 1) := by decide +kernel
theorem dX11_partedInto_0 : decode cX11_partedInto 0 = .ok (.aload_n 0, 1) := by decide +kernel
theorem dX11_partedInto_1 : decode cX11_partedInto 1 = .ok (.getfield 82, 3) := by decide +kernel
theorem dX11_partedInto_4 : decode cX11_partedInto 4 = .ok (.aload_n 0, 1) := by decide +kernel
theorem dX11_partedInto_5 : decode cX11_partedInto 5 = .ok (.getfield 65, 3) := by decide +kernel
theorem dX11_partedInto_8 : decode cX11_partedInto 8 = .ok (.invokevirtual 442, 3) := by decide +kernel
theorem dX11_partedInto_11 : decode cX11_partedInto 11 = .ok (.iload_n 1, 1) := by decide +kernel
theorem dX11_partedInto_12 : decode cX11_partedInto 12 = .ok (.iconst 1, 1) := by decide +kernel
theorem dX11_partedInto_13 : decode cX11_partedInto 13 = .ok (.if_icmp .lt 19, 3) := by decide +kernel
theorem dX11_partedInto_16 : decode cX11_partedInto 16 = .ok (.iload_n 1, 1) := by decide +kernel
theorem dX11_partedInto_17 : decode cX11_partedInto 17 = .ok (.iconst 4, 1) := by decide +kernel
theorem dX11_partedInto_18 : decode cX11_partedInto 18 = .ok (.if_icmp .gt 14, 3) := by decide +kernel
theorem dX11_partedInto_21 : decode cX11_partedInto 21 = .ok (.iload_n 1, 1) := by decide +kernel
theorem dX11_partedInto_22 : decode cX11_partedInto 22 = .ok (.aload_n 0, 1) := by decide +kernel
theorem dX11_partedInto_23 : decode cX11_partedInto 23 = .ok (.getfield 82, 3) := by decide +kernel
theorem dX11_partedInto_26 : decode cX11_partedInto 26 = .ok (.getfield 446, 3) := by decide +kernel
theorem dX11_partedInto_29 : decode cX11_partedInto 29 = .ok (.if_icmp .le 14, 3) := by decide +kernel
theorem dX11_partedInto_32 : decode cX11_partedInto 32 = .ok (.new 186, 3) := by decide +kernel
theorem dX11_partedInto_35 : decode cX11_partedInto 35 = .ok (.dup, 1) := by decide +kernel
theorem dX11_partedInto_36 : decode cX11_partedInto 36 = .ok (.ldc_w 447, 3) := by decide +kernel
theorem dX11_partedInto_39 : decode cX11_partedInto 39 = .ok (.invokespecial 190, 3) := by decide +kernel
theorem dX11_partedInto_42 : decode cX11_partedInto 42 = .ok (.athrow, 1) := by decide +kernel
theorem dX11_partedInto_43 : decode cX11_partedInto 43 = .ok (.aload_n 0, 1) := by decide +kernel
theorem dX11_partedInto_44 : decode cX11_partedInto 44 = .ok (.getfield 82, 3) := by decide +kernel
theorem dX11_partedInto_47 : decode cX11_partedInto 47 = .ok (.iload_n 1, 1) := by decide +kernel
theorem dX11_partedInto_48 : decode cX11_partedInto 48 = .ok (.invokevirtual 449, 3) := by decide +kernel
theorem dX11_partedInto_51 : decode cX11_partedInto 51 = .ok (.lreturn, 1) := by decide +kernel
theorem dX11_ownerBy_0 : decode cX11_ownerBy 0 = .ok (.iconst (-1), 1) := by decide +kernel
theorem dX11_ownerBy_1 : decode cX11_ownerBy 1 = .ok (.istore_n 3, 1) := by decide +kernel
theorem dX11_ownerBy_2 : decode cX11_ownerBy 2 = .ok (.lconst 0, 1) := by decide +kernel
theorem dX11_ownerBy_3 : decode cX11_ownerBy 3 = .ok (.lstore 4, 2) := by decide +kernel
theorem dX11_ownerBy_5 : decode cX11_ownerBy 5 = .ok (.iconst 0, 1) := by decide +kernel
theorem dX11_ownerBy_6 : decode cX11_ownerBy 6 = .ok (.istore 6, 2) := by decide +kernel
theorem dX11_ownerBy_8 : decode cX11_ownerBy 8 = .ok (.iload 6, 2) := by decide +kernel
theorem dX11_ownerBy_10 : decode cX11_ownerBy 10 = .ok (.bipush 6, 2) := by decide +kernel
theorem dX11_ownerBy_12 : decode cX11_ownerBy 12 = .ok (.if_icmp .ge 56, 3) := by decide +kernel
theorem dX11_ownerBy_15 : decode cX11_ownerBy 15 = .ok (.aload_n 0, 1) := by decide +kernel
theorem dX11_ownerBy_16 : decode cX11_ownerBy 16 = .ok (.getfield 24, 3) := by decide +kernel
theorem dX11_ownerBy_19 : decode cX11_ownerBy 19 = .ok (.iload 6, 2) := by decide +kernel
theorem dX11_ownerBy_21 : decode cX11_ownerBy 21 = .ok (.aaload, 1) := by decide +kernel
theorem dX11_ownerBy_22 : decode cX11_ownerBy 22 = .ok (.invokevirtual 452, 3) := by decide +kernel
theorem dX11_ownerBy_25 : decode cX11_ownerBy 25 = .ok (.ifCond .eq 37, 3) := by decide +kernel
theorem dX11_ownerBy_28 : decode cX11_ownerBy 28 = .ok (.aload_n 2, 1) := by decide +kernel
theorem dX11_ownerBy_29 : decode cX11_ownerBy 29 = .ok (.aload_n 1, 1) := by decide +kernel
theorem dX11_ownerBy_30 : decode cX11_ownerBy 30 = .ok (.aload_n 0, 1) := by decide +kernel
theorem dX11_ownerBy_31 : decode cX11_ownerBy 31 = .ok (.getfield 24, 3) := by decide +kernel
theorem dX11_ownerBy_34 : decode cX11_ownerBy 34 = .ok (.iload 6, 2) := by decide +kernel
theorem dX11_ownerBy_36 : decode cX11_ownerBy 36 = .ok (.aaload, 1) := by decide +kernel
theorem dX11_ownerBy_37 : decode cX11_ownerBy 37 = .ok (.invokevirtual 455, 3) := by decide +kernel
theorem dX11_ownerBy_40 : decode cX11_ownerBy 40 = .ok (.lstore 7, 2) := by decide +kernel
theorem dX11_ownerBy_42 : decode cX11_ownerBy 42 = .ok (.iload_n 3, 1) := by decide +kernel
theorem dX11_ownerBy_43 : decode cX11_ownerBy 43 = .ok (.iconst (-1), 1) := by decide +kernel
theorem dX11_ownerBy_44 : decode cX11_ownerBy 44 = .ok (.if_icmp .eq 11, 3) := by decide +kernel
theorem dX11_ownerBy_47 : decode cX11_ownerBy 47 = .ok (.lload 7, 2) := by decide +kernel
theorem dX11_ownerBy_49 : decode cX11_ownerBy 49 = .ok (.lload 4, 2) := by decide +kernel
theorem dX11_ownerBy_51 : decode cX11_ownerBy 51 = .ok (.lcmp, 1) := by decide +kernel
theorem dX11_ownerBy_52 : decode cX11_ownerBy 52 = .ok (.ifCond .ge 10, 3) := by decide +kernel
theorem dX11_ownerBy_55 : decode cX11_ownerBy 55 = .ok (.iload 6, 2) := by decide +kernel
theorem dX11_ownerBy_57 : decode cX11_ownerBy 57 = .ok (.istore_n 3, 1) := by decide +kernel
theorem dX11_ownerBy_58 : decode cX11_ownerBy 58 = .ok (.lload 7, 2) := by decide +kernel
theorem dX11_ownerBy_60 : decode cX11_ownerBy 60 = .ok (.lstore 4, 2) := by decide +kernel
theorem dX11_ownerBy_62 : decode cX11_ownerBy 62 = .ok (.iinc 6 1, 3) := by decide +kernel
theorem dX11_ownerBy_65 : decode cX11_ownerBy 65 = .ok (.goto (-57), 3) := by decide +kernel
theorem dX11_ownerBy_68 : decode cX11_ownerBy 68 = .ok (.iload_n 3, 1) := by decide +kernel
theorem dX11_ownerBy_69 : decode cX11_ownerBy 69 = .ok (.ireturn, 1) := by decide +kernel
theorem dX11_fillShades_0 : decode cX11_fillShades 0 = .ok (.aload_n 1, 1) := by decide +kernel
theorem dX11_fillShades_1 : decode cX11_fillShades 1 = .ok (.aload_n 0, 1) := by decide +kernel
theorem dX11_fillShades_2 : decode cX11_fillShades 2 = .ok (.getfield 107, 3) := by decide +kernel
theorem dX11_fillShades_5 : decode cX11_fillShades 5 = .ok (.aload_n 0, 1) := by decide +kernel
theorem dX11_fillShades_6 : decode cX11_fillShades 6 = .ok (.getfield 24, 3) := by decide +kernel
theorem dX11_fillShades_9 : decode cX11_fillShades 9 = .ok (.aload_n 0, 1) := by decide +kernel
theorem dX11_fillShades_10 : decode cX11_fillShades 10 = .ok (.getfield 31, 3) := by decide +kernel
theorem dX11_fillShades_13 : decode cX11_fillShades 13 = .ok (.invokevirtual 232, 3) := by decide +kernel
theorem dX11_fillShades_16 : decode cX11_fillShades 16 = .ok (.iconst 0, 1) := by decide +kernel
theorem dX11_fillShades_17 : decode cX11_fillShades 17 = .ok (.istore_n 2, 1) := by decide +kernel
theorem dX11_fillShades_18 : decode cX11_fillShades 18 = .ok (.iload_n 2, 1) := by decide +kernel
theorem dX11_fillShades_19 : decode cX11_fillShades 19 = .ok (.aload_n 1, 1) := by decide +kernel
theorem dX11_fillShades_20 : decode cX11_fillShades 20 = .ok (.getfield 164, 3) := by decide +kernel
theorem dX11_fillShades_23 : decode cX11_fillShades 23 = .ok (.if_icmp .ge 23, 3) := by decide +kernel
theorem dX11_fillShades_26 : decode cX11_fillShades 26 = .ok (.aload_n 0, 1) := by decide +kernel
theorem dX11_fillShades_27 : decode cX11_fillShades 27 = .ok (.getfield 107, 3) := by decide +kernel
theorem dX11_fillShades_30 : decode cX11_fillShades 30 = .ok (.iload_n 2, 1) := by decide +kernel
theorem dX11_fillShades_31 : decode cX11_fillShades 31 = .ok (.dup2, 1) := by decide +kernel
theorem dX11_fillShades_32 : decode cX11_fillShades 32 = .ok (.iaload, 1) := by decide +kernel
theorem dX11_fillShades_33 : decode cX11_fillShades 33 = .ok (.aload_n 1, 1) := by decide +kernel
theorem dX11_fillShades_34 : decode cX11_fillShades 34 = .ok (.iload_n 2, 1) := by decide +kernel
theorem dX11_fillShades_35 : decode cX11_fillShades 35 = .ok (.invokevirtual 236, 3) := by decide +kernel
theorem dX11_fillShades_38 : decode cX11_fillShades 38 = .ok (.iadd, 1) := by decide +kernel
theorem dX11_fillShades_39 : decode cX11_fillShades 39 = .ok (.iastore, 1) := by decide +kernel
theorem dX11_fillShades_40 : decode cX11_fillShades 40 = .ok (.iinc 2 1, 3) := by decide +kernel
theorem dX11_fillShades_43 : decode cX11_fillShades 43 = .ok (.goto (-25), 3) := by decide +kernel
theorem dX11_fillShades_46 : decode cX11_fillShades 46 = .ok (.return_, 1) := by decide +kernel
theorem dX11_drawTrial_0 : decode cX11_drawTrial 0 = .ok (.iload_n 2, 1) := by decide +kernel
theorem dX11_drawTrial_1 : decode cX11_drawTrial 1 = .ok (.istore_n 3, 1) := by decide +kernel
theorem dX11_drawTrial_2 : decode cX11_drawTrial 2 = .ok (.aload_n 0, 1) := by decide +kernel
theorem dX11_drawTrial_3 : decode cX11_drawTrial 3 = .ok (.getfield 103, 3) := by decide +kernel
theorem dX11_drawTrial_6 : decode cX11_drawTrial 6 = .ok (.invokevirtual 459, 3) := by decide +kernel
theorem dX11_drawTrial_9 : decode cX11_drawTrial 9 = .ok (.iconst 0, 1) := by decide +kernel
theorem dX11_drawTrial_10 : decode cX11_drawTrial 10 = .ok (.istore 4, 2) := by decide +kernel
theorem dX11_drawTrial_12 : decode cX11_drawTrial 12 = .ok (.iload 4, 2) := by decide +kernel
theorem dX11_drawTrial_14 : decode cX11_drawTrial 14 = .ok (.aload_n 1, 1) := by decide +kernel
theorem dX11_drawTrial_15 : decode cX11_drawTrial 15 = .ok (.getfield 164, 3) := by decide +kernel
theorem dX11_drawTrial_18 : decode cX11_drawTrial 18 = .ok (.if_icmp .ge 38, 3) := by decide +kernel
theorem dX11_drawTrial_21 : decode cX11_drawTrial 21 = .ok (.iload_n 3, 1) := by decide +kernel
theorem dX11_drawTrial_22 : decode cX11_drawTrial 22 = .ok (.invokestatic 247, 3) := by decide +kernel
theorem dX11_drawTrial_25 : decode cX11_drawTrial 25 = .ok (.istore_n 3, 1) := by decide +kernel
theorem dX11_drawTrial_26 : decode cX11_drawTrial 26 = .ok (.aload_n 0, 1) := by decide +kernel
theorem dX11_drawTrial_27 : decode cX11_drawTrial 27 = .ok (.getfield 103, 3) := by decide +kernel
theorem dX11_drawTrial_30 : decode cX11_drawTrial 30 = .ok (.iload 4, 2) := by decide +kernel
theorem dX11_drawTrial_32 : decode cX11_drawTrial 32 = .ok (.aload_n 0, 1) := by decide +kernel
theorem dX11_drawTrial_33 : decode cX11_drawTrial 33 = .ok (.iload 4, 2) := by decide +kernel
theorem dX11_drawTrial_35 : decode cX11_drawTrial 35 = .ok (.iload_n 3, 1) := by decide +kernel
theorem dX11_drawTrial_36 : decode cX11_drawTrial 36 = .ok (.invokevirtual 253, 3) := by decide +kernel
theorem dX11_drawTrial_39 : decode cX11_drawTrial 39 = .ok (.aload_n 0, 1) := by decide +kernel
theorem dX11_drawTrial_40 : decode cX11_drawTrial 40 = .ok (.getfield 31, 3) := by decide +kernel
theorem dX11_drawTrial_43 : decode cX11_drawTrial 43 = .ok (.getfield 154, 3) := by decide +kernel
theorem dX11_drawTrial_46 : decode cX11_drawTrial 46 = .ok (.invokevirtual 256, 3) := by decide +kernel
theorem dX11_drawTrial_49 : decode cX11_drawTrial 49 = .ok (.pop, 1) := by decide +kernel
theorem dX11_drawTrial_50 : decode cX11_drawTrial 50 = .ok (.iinc 4 1, 3) := by decide +kernel
theorem dX11_drawTrial_53 : decode cX11_drawTrial 53 = .ok (.goto (-41), 3) := by decide +kernel
theorem dX11_drawTrial_56 : decode cX11_drawTrial 56 = .ok (.iload_n 3, 1) := by decide +kernel
theorem dX11_drawTrial_57 : decode cX11_drawTrial 57 = .ok (.ireturn, 1) := by decide +kernel
theorem dX11_reading_0 : decode cX11_reading 0 = .ok (.iconst 2, 1) := by decide +kernel
theorem dX11_reading_1 : decode cX11_reading 1 = .ok (.aload_n 0, 1) := by decide +kernel
theorem dX11_reading_2 : decode cX11_reading 2 = .ok (.getfield 31, 3) := by decide +kernel
theorem dX11_reading_5 : decode cX11_reading 5 = .ok (.getfield 154, 3) := by decide +kernel
theorem dX11_reading_8 : decode cX11_reading 8 = .ok (.imul, 1) := by decide +kernel
theorem dX11_reading_9 : decode cX11_reading 9 = .ok (.iconst 1, 1) := by decide +kernel
theorem dX11_reading_10 : decode cX11_reading 10 = .ok (.iadd, 1) := by decide +kernel
theorem dX11_reading_11 : decode cX11_reading 11 = .ok (.istore_n 3, 1) := by decide +kernel
theorem dX11_reading_12 : decode cX11_reading 12 = .ok (.iload_n 2, 1) := by decide +kernel
theorem dX11_reading_13 : decode cX11_reading 13 = .ok (.bipush 16, 2) := by decide +kernel
theorem dX11_reading_15 : decode cX11_reading 15 = .ok (.iushr, 1) := by decide +kernel
theorem dX11_reading_16 : decode cX11_reading 16 = .ok (.sipush 32767, 3) := by decide +kernel
theorem dX11_reading_19 : decode cX11_reading 19 = .ok (.iand, 1) := by decide +kernel
theorem dX11_reading_20 : decode cX11_reading 20 = .ok (.istore 4, 2) := by decide +kernel
theorem dX11_reading_22 : decode cX11_reading 22 = .ok (.iconst 0, 1) := by decide +kernel
theorem dX11_reading_23 : decode cX11_reading 23 = .ok (.aload_n 0, 1) := by decide +kernel
theorem dX11_reading_24 : decode cX11_reading 24 = .ok (.getfield 107, 3) := by decide +kernel
theorem dX11_reading_27 : decode cX11_reading 27 = .ok (.iload_n 1, 1) := by decide +kernel
theorem dX11_reading_28 : decode cX11_reading 28 = .ok (.iaload, 1) := by decide +kernel
theorem dX11_reading_29 : decode cX11_reading 29 = .ok (.iload 4, 2) := by decide +kernel
theorem dX11_reading_31 : decode cX11_reading 31 = .ok (.iload_n 3, 1) := by decide +kernel
theorem dX11_reading_32 : decode cX11_reading 32 = .ok (.iconst 1, 1) := by decide +kernel
theorem dX11_reading_33 : decode cX11_reading 33 = .ok (.if_icmp .ge 7, 3) := by decide +kernel
theorem dX11_reading_36 : decode cX11_reading 36 = .ok (.iconst 1, 1) := by decide +kernel
theorem dX11_reading_37 : decode cX11_reading 37 = .ok (.goto 4, 3) := by decide +kernel
theorem dX11_reading_40 : decode cX11_reading 40 = .ok (.iload_n 3, 1) := by decide +kernel
theorem dX11_reading_41 : decode cX11_reading 41 = .ok (.invokestatic 462, 3) := by decide +kernel
theorem dX11_reading_44 : decode cX11_reading 44 = .ok (.iadd, 1) := by decide +kernel
theorem dX11_reading_45 : decode cX11_reading 45 = .ok (.aload_n 0, 1) := by decide +kernel
theorem dX11_reading_46 : decode cX11_reading 46 = .ok (.getfield 31, 3) := by decide +kernel
theorem dX11_reading_49 : decode cX11_reading 49 = .ok (.getfield 154, 3) := by decide +kernel
theorem dX11_reading_52 : decode cX11_reading 52 = .ok (.isub, 1) := by decide +kernel
theorem dX11_reading_53 : decode cX11_reading 53 = .ok (.invokestatic 386, 3) := by decide +kernel
theorem dX11_reading_56 : decode cX11_reading 56 = .ok (.ireturn, 1) := by decide +kernel
theorem dX11_stepped_0 : decode cX11_stepped 0 = .ok (.iload_n 0, 1) := by decide +kernel
theorem dX11_stepped_1 : decode cX11_stepped 1 = .ok (.ldc_w 465, 3) := by decide +kernel
theorem dX11_stepped_4 : decode cX11_stepped 4 = .ok (.imul, 1) := by decide +kernel
theorem dX11_stepped_5 : decode cX11_stepped 5 = .ok (.sipush 12345, 3) := by decide +kernel
theorem dX11_stepped_8 : decode cX11_stepped 8 = .ok (.iadd, 1) := by decide +kernel
theorem dX11_stepped_9 : decode cX11_stepped 9 = .ok (.ireturn, 1) := by decide +kernel
theorem dX11_cutDown_0 : decode cX11_cutDown 0 = .ok (.lload_n 2, 1) := by decide +kernel
theorem dX11_cutDown_1 : decode cX11_cutDown 1 = .ok (.lconst 1, 1) := by decide +kernel
theorem dX11_cutDown_2 : decode cX11_cutDown 2 = .ok (.lcmp, 1) := by decide +kernel
theorem dX11_cutDown_3 : decode cX11_cutDown 3 = .ok (.ifCond .ge 7, 3) := by decide +kernel
theorem dX11_cutDown_6 : decode cX11_cutDown 6 = .ok (.iconst 0, 1) := by decide +kernel
theorem dX11_cutDown_7 : decode cX11_cutDown 7 = .ok (.goto 9, 3) := by decide +kernel
theorem dX11_cutDown_10 : decode cX11_cutDown 10 = .ok (.lload_n 0, 1) := by decide +kernel
theorem dX11_cutDown_11 : decode cX11_cutDown 11 = .ok (.lload_n 2, 1) := by decide +kernel
theorem dX11_cutDown_12 : decode cX11_cutDown 12 = .ok (.invokestatic 466, 3) := by decide +kernel
theorem dX11_cutDown_15 : decode cX11_cutDown 15 = .ok (.l2i, 1) := by decide +kernel
theorem dX11_cutDown_16 : decode cX11_cutDown 16 = .ok (.ireturn, 1) := by decide +kernel
theorem dX11_cutUp_0 : decode cX11_cutUp 0 = .ok (.lload_n 2, 1) := by decide +kernel
theorem dX11_cutUp_1 : decode cX11_cutUp 1 = .ok (.lconst 1, 1) := by decide +kernel
theorem dX11_cutUp_2 : decode cX11_cutUp 2 = .ok (.lcmp, 1) := by decide +kernel
theorem dX11_cutUp_3 : decode cX11_cutUp 3 = .ok (.ifCond .ge 7, 3) := by decide +kernel
theorem dX11_cutUp_6 : decode cX11_cutUp 6 = .ok (.iconst 0, 1) := by decide +kernel
theorem dX11_cutUp_7 : decode cX11_cutUp 7 = .ok (.goto 11, 3) := by decide +kernel
theorem dX11_cutUp_10 : decode cX11_cutUp 10 = .ok (.lload_n 0, 1) := by decide +kernel
theorem dX11_cutUp_11 : decode cX11_cutUp 11 = .ok (.lneg, 1) := by decide +kernel
theorem dX11_cutUp_12 : decode cX11_cutUp 12 = .ok (.lload_n 2, 1) := by decide +kernel
theorem dX11_cutUp_13 : decode cX11_cutUp 13 = .ok (.invokestatic 466, 3) := by decide +kernel
theorem dX11_cutUp_16 : decode cX11_cutUp 16 = .ok (.lneg, 1) := by decide +kernel
theorem dX11_cutUp_17 : decode cX11_cutUp 17 = .ok (.l2i, 1) := by decide +kernel
theorem dX11_cutUp_18 : decode cX11_cutUp 18 = .ok (.ireturn, 1) := by decide +kernel
theorem dX11_compared_0 : decode cX11_compared 0 = .ok (.iload_n 0, 1) := by decide +kernel
theorem dX11_compared_1 : decode cX11_compared 1 = .ok (.iload_n 1, 1) := by decide +kernel
theorem dX11_compared_2 : decode cX11_compared 2 = .ok (.if_icmp .le 7, 3) := by decide +kernel
theorem dX11_compared_5 : decode cX11_compared 5 = .ok (.iconst 1, 1) := by decide +kernel
theorem dX11_compared_6 : decode cX11_compared 6 = .ok (.goto 13, 3) := by decide +kernel
theorem dX11_compared_9 : decode cX11_compared 9 = .ok (.iload_n 0, 1) := by decide +kernel
theorem dX11_compared_10 : decode cX11_compared 10 = .ok (.iload_n 1, 1) := by decide +kernel
theorem dX11_compared_11 : decode cX11_compared 11 = .ok (.if_icmp .ge 7, 3) := by decide +kernel
theorem dX11_compared_14 : decode cX11_compared 14 = .ok (.iconst (-1), 1) := by decide +kernel
theorem dX11_compared_15 : decode cX11_compared 15 = .ok (.goto 4, 3) := by decide +kernel
theorem dX11_compared_18 : decode cX11_compared 18 = .ok (.iconst 0, 1) := by decide +kernel
theorem dX11_compared_19 : decode cX11_compared 19 = .ok (.ireturn, 1) := by decide +kernel
theorem dX12_init_0 : decode cX12_init 0 = .ok (.aload_n 0, 1) := by decide +kernel
theorem dX12_init_1 : decode cX12_init 1 = .ok (.invokespecial 1, 3) := by decide +kernel
theorem dX12_init_4 : decode cX12_init 4 = .ok (.aload_n 0, 1) := by decide +kernel
theorem dX12_init_5 : decode cX12_init 5 = .ok (.iconst 4, 1) := by decide +kernel
theorem dX12_init_6 : decode cX12_init 6 = .ok (.anewarray 7, 3) := by decide +kernel
theorem dX12_init_9 : decode cX12_init 9 = .ok (.dup, 1) := by decide +kernel
theorem dX12_init_10 : decode cX12_init 10 = .ok (.iconst 0, 1) := by decide +kernel
theorem dX12_init_11 : decode cX12_init 11 = .ok (.ldc 9, 2) := by decide +kernel
theorem dX12_init_13 : decode cX12_init 13 = .ok (.aastore, 1) := by decide +kernel
theorem dX12_init_14 : decode cX12_init 14 = .ok (.dup, 1) := by decide +kernel
theorem dX12_init_15 : decode cX12_init 15 = .ok (.iconst 1, 1) := by decide +kernel
theorem dX12_init_16 : decode cX12_init 16 = .ok (.ldc 11, 2) := by decide +kernel
theorem dX12_init_18 : decode cX12_init 18 = .ok (.aastore, 1) := by decide +kernel
theorem dX12_init_19 : decode cX12_init 19 = .ok (.dup, 1) := by decide +kernel
theorem dX12_init_20 : decode cX12_init 20 = .ok (.iconst 2, 1) := by decide +kernel
theorem dX12_init_21 : decode cX12_init 21 = .ok (.ldc 13, 2) := by decide +kernel
theorem dX12_init_23 : decode cX12_init 23 = .ok (.aastore, 1) := by decide +kernel
theorem dX12_init_24 : decode cX12_init 24 = .ok (.dup, 1) := by decide +kernel
theorem dX12_init_25 : decode cX12_init 25 = .ok (.iconst 3, 1) := by decide +kernel
theorem dX12_init_26 : decode cX12_init 26 = .ok (.ldc 15, 2) := by decide +kernel
theorem dX12_init_28 : decode cX12_init 28 = .ok (.aastore, 1) := by decide +kernel
theorem dX12_init_29 : decode cX12_init 29 = .ok (.putfield 17, 3) := by decide +kernel
theorem dX12_init_32 : decode cX12_init 32 = .ok (.aload_n 0, 1) := by decide +kernel
theorem dX12_init_33 : decode cX12_init 33 = .ok (.iconst 3, 1) := by decide +kernel
theorem dX12_init_34 : decode cX12_init 34 = .ok (.anewarray 7, 3) := by decide +kernel
theorem dX12_init_37 : decode cX12_init 37 = .ok (.dup, 1) := by decide +kernel
theorem dX12_init_38 : decode cX12_init 38 = .ok (.iconst 0, 1) := by decide +kernel
theorem dX12_init_39 : decode cX12_init 39 = .ok (.ldc 23, 2) := by decide +kernel
theorem dX12_init_41 : decode cX12_init 41 = .ok (.aastore, 1) := by decide +kernel
theorem dX12_init_42 : decode cX12_init 42 = .ok (.dup, 1) := by decide +kernel
theorem dX12_init_43 : decode cX12_init 43 = .ok (.iconst 1, 1) := by decide +kernel
theorem dX12_init_44 : decode cX12_init 44 = .ok (.ldc 25, 2) := by decide +kernel
theorem dX12_init_46 : decode cX12_init 46 = .ok (.aastore, 1) := by decide +kernel
theorem dX12_init_47 : decode cX12_init 47 = .ok (.dup, 1) := by decide +kernel
theorem dX12_init_48 : decode cX12_init 48 = .ok (.iconst 2, 1) := by decide +kernel
theorem dX12_init_49 : decode cX12_init 49 = .ok (.ldc 27, 2) := by decide +kernel
theorem dX12_init_51 : decode cX12_init 51 = .ok (.aastore, 1) := by decide +kernel
theorem dX12_init_52 : decode cX12_init 52 = .ok (.putfield 29, 3) := by decide +kernel
theorem dX12_init_55 : decode cX12_init 55 = .ok (.aload_n 0, 1) := by decide +kernel
theorem dX12_init_56 : decode cX12_init 56 = .ok (.bipush 8, 2) := by decide +kernel
theorem dX12_init_58 : decode cX12_init 58 = .ok (.newarray .int, 2) := by decide +kernel
theorem dX12_init_60 : decode cX12_init 60 = .ok (.putfield 32, 3) := by decide +kernel
theorem dX12_init_63 : decode cX12_init 63 = .ok (.aload_n 0, 1) := by decide +kernel
theorem dX12_init_64 : decode cX12_init 64 = .ok (.bipush 8, 2) := by decide +kernel
theorem dX12_init_66 : decode cX12_init 66 = .ok (.newarray .int, 2) := by decide +kernel
theorem dX12_init_68 : decode cX12_init 68 = .ok (.putfield 36, 3) := by decide +kernel
theorem dX12_init_71 : decode cX12_init 71 = .ok (.aload_n 0, 1) := by decide +kernel
theorem dX12_init_72 : decode cX12_init 72 = .ok (.bipush 8, 2) := by decide +kernel
theorem dX12_init_74 : decode cX12_init 74 = .ok (.newarray .int, 2) := by decide +kernel
theorem dX12_init_76 : decode cX12_init 76 = .ok (.putfield 39, 3) := by decide +kernel
theorem dX12_init_79 : decode cX12_init 79 = .ok (.aload_n 0, 1) := by decide +kernel
theorem dX12_init_80 : decode cX12_init 80 = .ok (.bipush 8, 2) := by decide +kernel
theorem dX12_init_82 : decode cX12_init 82 = .ok (.newarray .int, 2) := by decide +kernel
theorem dX12_init_84 : decode cX12_init 84 = .ok (.putfield 41, 3) := by decide +kernel
theorem dX12_init_87 : decode cX12_init 87 = .ok (.aload_n 0, 1) := by decide +kernel
theorem dX12_init_88 : decode cX12_init 88 = .ok (.bipush 8, 2) := by decide +kernel
theorem dX12_init_90 : decode cX12_init 90 = .ok (.newarray .int, 2) := by decide +kernel
theorem dX12_init_92 : decode cX12_init 92 = .ok (.putfield 44, 3) := by decide +kernel
theorem dX12_init_95 : decode cX12_init 95 = .ok (.aload_n 0, 1) := by decide +kernel
theorem dX12_init_96 : decode cX12_init 96 = .ok (.bipush 8, 2) := by decide +kernel
theorem dX12_init_98 : decode cX12_init 98 = .ok (.newarray .int, 2) := by decide +kernel
theorem dX12_init_100 : decode cX12_init 100 = .ok (.putfield 47, 3) := by decide +kernel
theorem dX12_init_103 : decode cX12_init 103 = .ok (.aload_n 0, 1) := by decide +kernel
theorem dX12_init_104 : decode cX12_init 104 = .ok (.sipush 320, 3) := by decide +kernel
theorem dX12_init_107 : decode cX12_init 107 = .ok (.newarray .int, 2) := by decide +kernel
theorem dX12_init_109 : decode cX12_init 109 = .ok (.putfield 50, 3) := by decide +kernel
theorem dX12_init_112 : decode cX12_init 112 = .ok (.aload_n 0, 1) := by decide +kernel
theorem dX12_init_113 : decode cX12_init 113 = .ok (.sipush 320, 3) := by decide +kernel
theorem dX12_init_116 : decode cX12_init 116 = .ok (.newarray .int, 2) := by decide +kernel
theorem dX12_init_118 : decode cX12_init 118 = .ok (.putfield 53, 3) := by decide +kernel
theorem dX12_init_121 : decode cX12_init 121 = .ok (.aload_n 0, 1) := by decide +kernel
theorem dX12_init_122 : decode cX12_init 122 = .ok (.sipush 320, 3) := by decide +kernel
theorem dX12_init_125 : decode cX12_init 125 = .ok (.newarray .int, 2) := by decide +kernel
theorem dX12_init_127 : decode cX12_init 127 = .ok (.putfield 55, 3) := by decide +kernel
theorem dX12_init_130 : decode cX12_init 130 = .ok (.aload_n 0, 1) := by decide +kernel
theorem dX12_init_131 : decode cX12_init 131 = .ok (.sipush 320, 3) := by decide +kernel
theorem dX12_init_134 : decode cX12_init 134 = .ok (.newarray .int, 2) := by decide +kernel
theorem dX12_init_136 : decode cX12_init 136 = .ok (.putfield 58, 3) := by decide +kernel
theorem dX12_init_139 : decode cX12_init 139 = .ok (.aload_n 0, 1) := by decide +kernel
theorem dX12_init_140 : decode cX12_init 140 = .ok (.sipush 320, 3) := by decide +kernel
theorem dX12_init_143 : decode cX12_init 143 = .ok (.newarray .int, 2) := by decide +kernel
theorem dX12_init_145 : decode cX12_init 145 = .ok (.putfield 61, 3) := by decide +kernel
theorem dX12_init_148 : decode cX12_init 148 = .ok (.aload_n 0, 1) := by decide +kernel
theorem dX12_init_149 : decode cX12_init 149 = .ok (.sipush 320, 3) := by decide +kernel
theorem dX12_init_152 : decode cX12_init 152 = .ok (.newarray .int, 2) := by decide +kernel
theorem dX12_init_154 : decode cX12_init 154 = .ok (.putfield 64, 3) := by decide +kernel
theorem dX12_init_157 : decode cX12_init 157 = .ok (.aload_n 0, 1) := by decide +kernel
theorem dX12_init_158 : decode cX12_init 158 = .ok (.sipush 320, 3) := by decide +kernel
theorem dX12_init_161 : decode cX12_init 161 = .ok (.newarray .int, 2) := by decide +kernel
theorem dX12_init_163 : decode cX12_init 163 = .ok (.putfield 66, 3) := by decide +kernel
theorem dX12_init_166 : decode cX12_init 166 = .ok (.aload_n 0, 1) := by decide +kernel
theorem dX12_init_167 : decode cX12_init 167 = .ok (.sipush 320, 3) := by decide +kernel
theorem dX12_init_170 : decode cX12_init 170 = .ok (.newarray .int, 2) := by decide +kernel
theorem dX12_init_172 : decode cX12_init 172 = .ok (.putfield 69, 3) := by decide +kernel
theorem dX12_init_175 : decode cX12_init 175 = .ok (.aload_n 0, 1) := by decide +kernel
theorem dX12_init_176 : decode cX12_init 176 = .ok (.bipush 32, 2) := by decide +kernel
theorem dX12_init_178 : decode cX12_init 178 = .ok (.newarray .int, 2) := by decide +kernel
theorem dX12_init_180 : decode cX12_init 180 = .ok (.putfield 72, 3) := by decide +kernel
theorem dX12_init_183 : decode cX12_init 183 = .ok (.aload_n 0, 1) := by decide +kernel
theorem dX12_init_184 : decode cX12_init 184 = .ok (.bipush 32, 2) := by decide +kernel
theorem dX12_init_186 : decode cX12_init 186 = .ok (.newarray .int, 2) := by decide +kernel
theorem dX12_init_188 : decode cX12_init 188 = .ok (.putfield 75, 3) := by decide +kernel
theorem dX12_init_191 : decode cX12_init 191 = .ok (.aload_n 0, 1) := by decide +kernel
theorem dX12_init_192 : decode cX12_init 192 = .ok (.bipush 64, 2) := by decide +kernel
theorem dX12_init_194 : decode cX12_init 194 = .ok (.newarray .int, 2) := by decide +kernel
theorem dX12_init_196 : decode cX12_init 196 = .ok (.putfield 78, 3) := by decide +kernel
theorem dX12_init_199 : decode cX12_init 199 = .ok (.aload_n 0, 1) := by decide +kernel
theorem dX12_init_200 : decode cX12_init 200 = .ok (.bipush 64, 2) := by decide +kernel
theorem dX12_init_202 : decode cX12_init 202 = .ok (.newarray .int, 2) := by decide +kernel
theorem dX12_init_204 : decode cX12_init 204 = .ok (.putfield 81, 3) := by decide +kernel
theorem dX12_init_207 : decode cX12_init 207 = .ok (.aload_n 0, 1) := by decide +kernel
theorem dX12_init_208 : decode cX12_init 208 = .ok (.bipush 64, 2) := by decide +kernel
theorem dX12_init_210 : decode cX12_init 210 = .ok (.newarray .int, 2) := by decide +kernel
theorem dX12_init_212 : decode cX12_init 212 = .ok (.putfield 84, 3) := by decide +kernel
theorem dX12_init_215 : decode cX12_init 215 = .ok (.aload_n 0, 1) := by decide +kernel
theorem dX12_init_216 : decode cX12_init 216 = .ok (.bipush 6, 2) := by decide +kernel
theorem dX12_init_218 : decode cX12_init 218 = .ok (.newarray .int, 2) := by decide +kernel
theorem dX12_init_220 : decode cX12_init 220 = .ok (.dup, 1) := by decide +kernel
theorem dX12_init_221 : decode cX12_init 221 = .ok (.iconst 0, 1) := by decide +kernel
theorem dX12_init_222 : decode cX12_init 222 = .ok (.iconst 2, 1) := by decide +kernel
theorem dX12_init_223 : decode cX12_init 223 = .ok (.iastore, 1) := by decide +kernel
theorem dX12_init_224 : decode cX12_init 224 = .ok (.dup, 1) := by decide +kernel
theorem dX12_init_225 : decode cX12_init 225 = .ok (.iconst 1, 1) := by decide +kernel
theorem dX12_init_226 : decode cX12_init 226 = .ok (.bipush 20, 2) := by decide +kernel
theorem dX12_init_228 : decode cX12_init 228 = .ok (.iastore, 1) := by decide +kernel
theorem dX12_init_229 : decode cX12_init 229 = .ok (.dup, 1) := by decide +kernel
theorem dX12_init_230 : decode cX12_init 230 = .ok (.iconst 2, 1) := by decide +kernel
theorem dX12_init_231 : decode cX12_init 231 = .ok (.iconst 3, 1) := by decide +kernel
theorem dX12_init_232 : decode cX12_init 232 = .ok (.iastore, 1) := by decide +kernel
theorem dX12_init_233 : decode cX12_init 233 = .ok (.dup, 1) := by decide +kernel
theorem dX12_init_234 : decode cX12_init 234 = .ok (.iconst 3, 1) := by decide +kernel
theorem dX12_init_235 : decode cX12_init 235 = .ok (.iconst 0, 1) := by decide +kernel
theorem dX12_init_236 : decode cX12_init 236 = .ok (.iastore, 1) := by decide +kernel
theorem dX12_init_237 : decode cX12_init 237 = .ok (.dup, 1) := by decide +kernel
theorem dX12_init_238 : decode cX12_init 238 = .ok (.iconst 4, 1) := by decide +kernel
theorem dX12_init_239 : decode cX12_init 239 = .ok (.iconst 0, 1) := by decide +kernel
theorem dX12_init_240 : decode cX12_init 240 = .ok (.iastore, 1) := by decide +kernel
theorem dX12_init_241 : decode cX12_init 241 = .ok (.dup, 1) := by decide +kernel
theorem dX12_init_242 : decode cX12_init 242 = .ok (.iconst 5, 1) := by decide +kernel
theorem dX12_init_243 : decode cX12_init 243 = .ok (.iconst 0, 1) := by decide +kernel
theorem dX12_init_244 : decode cX12_init 244 = .ok (.iastore, 1) := by decide +kernel
theorem dX12_init_245 : decode cX12_init 245 = .ok (.putfield 87, 3) := by decide +kernel
theorem dX12_init_248 : decode cX12_init 248 = .ok (.aload_n 0, 1) := by decide +kernel
theorem dX12_init_249 : decode cX12_init 249 = .ok (.bipush 84, 2) := by decide +kernel
theorem dX12_init_251 : decode cX12_init 251 = .ok (.newarray .int, 2) := by decide +kernel
theorem dX12_init_253 : decode cX12_init 253 = .ok (.putfield 90, 3) := by decide +kernel
theorem dX12_init_256 : decode cX12_init 256 = .ok (.aload_n 0, 1) := by decide +kernel
theorem dX12_init_257 : decode cX12_init 257 = .ok (.bipush 84, 2) := by decide +kernel
theorem dX12_init_259 : decode cX12_init 259 = .ok (.newarray .int, 2) := by decide +kernel
theorem dX12_init_261 : decode cX12_init 261 = .ok (.putfield 93, 3) := by decide +kernel
theorem dX12_init_264 : decode cX12_init 264 = .ok (.aload_n 0, 1) := by decide +kernel
theorem dX12_init_265 : decode cX12_init 265 = .ok (.iconst 4, 1) := by decide +kernel
theorem dX12_init_266 : decode cX12_init 266 = .ok (.newarray .int, 2) := by decide +kernel
theorem dX12_init_268 : decode cX12_init 268 = .ok (.putfield 96, 3) := by decide +kernel
theorem dX12_init_271 : decode cX12_init 271 = .ok (.aload_n 0, 1) := by decide +kernel
theorem dX12_init_272 : decode cX12_init 272 = .ok (.sipush 500, 3) := by decide +kernel
theorem dX12_init_275 : decode cX12_init 275 = .ok (.newarray .int, 2) := by decide +kernel
theorem dX12_init_277 : decode cX12_init 277 = .ok (.putfield 99, 3) := by decide +kernel
theorem dX12_init_280 : decode cX12_init 280 = .ok (.aload_n 0, 1) := by decide +kernel
theorem dX12_init_281 : decode cX12_init 281 = .ok (.iconst (-1), 1) := by decide +kernel
theorem dX12_init_282 : decode cX12_init 282 = .ok (.putfield 102, 3) := by decide +kernel
theorem dX12_init_285 : decode cX12_init 285 = .ok (.aload_n 0, 1) := by decide +kernel
theorem dX12_init_286 : decode cX12_init 286 = .ok (.bipush 40, 2) := by decide +kernel
theorem dX12_init_288 : decode cX12_init 288 = .ok (.newarray .int, 2) := by decide +kernel
theorem dX12_init_290 : decode cX12_init 290 = .ok (.putfield 106, 3) := by decide +kernel
theorem dX12_init_293 : decode cX12_init 293 = .ok (.aload_n 0, 1) := by decide +kernel
theorem dX12_init_294 : decode cX12_init 294 = .ok (.bipush 40, 2) := by decide +kernel
theorem dX12_init_296 : decode cX12_init 296 = .ok (.newarray .int, 2) := by decide +kernel
theorem dX12_init_298 : decode cX12_init 298 = .ok (.putfield 109, 3) := by decide +kernel
theorem dX12_init_301 : decode cX12_init 301 = .ok (.aload_n 0, 1) := by decide +kernel
theorem dX12_init_302 : decode cX12_init 302 = .ok (.bipush 40, 2) := by decide +kernel
theorem dX12_init_304 : decode cX12_init 304 = .ok (.newarray .int, 2) := by decide +kernel
theorem dX12_init_306 : decode cX12_init 306 = .ok (.putfield 112, 3) := by decide +kernel
theorem dX12_init_309 : decode cX12_init 309 = .ok (.aload_n 0, 1) := by decide +kernel
theorem dX12_init_310 : decode cX12_init 310 = .ok (.sipush 800, 3) := by decide +kernel
theorem dX12_init_313 : decode cX12_init 313 = .ok (.newarray .long, 2) := by decide +kernel
theorem dX12_init_315 : decode cX12_init 315 = .ok (.putfield 115, 3) := by decide +kernel
theorem dX12_init_318 : decode cX12_init 318 = .ok (.aload_n 0, 1) := by decide +kernel
theorem dX12_init_319 : decode cX12_init 319 = .ok (.sipush 800, 3) := by decide +kernel
theorem dX12_init_322 : decode cX12_init 322 = .ok (.newarray .long, 2) := by decide +kernel
theorem dX12_init_324 : decode cX12_init 324 = .ok (.putfield 119, 3) := by decide +kernel
theorem dX12_init_327 : decode cX12_init 327 = .ok (.aload_n 0, 1) := by decide +kernel
theorem dX12_init_328 : decode cX12_init 328 = .ok (.bipush 12, 2) := by decide +kernel
theorem dX12_init_330 : decode cX12_init 330 = .ok (.newarray .int, 2) := by decide +kernel
theorem dX12_init_332 : decode cX12_init 332 = .ok (.putfield 122, 3) := by decide +kernel
theorem dX12_init_335 : decode cX12_init 335 = .ok (.aload_n 0, 1) := by decide +kernel
theorem dX12_init_336 : decode cX12_init 336 = .ok (.bipush 12, 2) := by decide +kernel
theorem dX12_init_338 : decode cX12_init 338 = .ok (.newarray .int, 2) := by decide +kernel
theorem dX12_init_340 : decode cX12_init 340 = .ok (.putfield 125, 3) := by decide +kernel
theorem dX12_init_343 : decode cX12_init 343 = .ok (.aload_n 0, 1) := by decide +kernel
theorem dX12_init_344 : decode cX12_init 344 = .ok (.iconst 5, 1) := by decide +kernel
theorem dX12_init_345 : decode cX12_init 345 = .ok (.newarray .int, 2) := by decide +kernel
theorem dX12_init_347 : decode cX12_init 347 = .ok (.putfield 128, 3) := by decide +kernel
theorem dX12_init_350 : decode cX12_init 350 = .ok (.aload_n 0, 1) := by decide +kernel
theorem dX12_init_351 : decode cX12_init 351 = .ok (.iconst 5, 1) := by decide +kernel
theorem dX12_init_352 : decode cX12_init 352 = .ok (.newarray .int, 2) := by decide +kernel
theorem dX12_init_354 : decode cX12_init 354 = .ok (.putfield 131, 3) := by decide +kernel
theorem dX12_init_357 : decode cX12_init 357 = .ok (.aload_n 0, 1) := by decide +kernel
theorem dX12_init_358 : decode cX12_init 358 = .ok (.iconst (-1), 1) := by decide +kernel
theorem dX12_init_359 : decode cX12_init 359 = .ok (.putfield 134, 3) := by decide +kernel
theorem dX12_init_362 : decode cX12_init 362 = .ok (.aload_n 0, 1) := by decide +kernel
theorem dX12_init_363 : decode cX12_init 363 = .ok (.bipush 40, 2) := by decide +kernel
theorem dX12_init_365 : decode cX12_init 365 = .ok (.newarray .int, 2) := by decide +kernel
theorem dX12_init_367 : decode cX12_init 367 = .ok (.putfield 137, 3) := by decide +kernel
theorem dX12_init_370 : decode cX12_init 370 = .ok (.aload_n 0, 1) := by decide +kernel
theorem dX12_init_371 : decode cX12_init 371 = .ok (.bipush 20, 2) := by decide +kernel
theorem dX12_init_373 : decode cX12_init 373 = .ok (.newarray .int, 2) := by decide +kernel
theorem dX12_init_375 : decode cX12_init 375 = .ok (.putfield 140, 3) := by decide +kernel
theorem dX12_init_378 : decode cX12_init 378 = .ok (.aload_n 0, 1) := by decide +kernel
theorem dX12_init_379 : decode cX12_init 379 = .ok (.bipush 20, 2) := by decide +kernel
theorem dX12_init_381 : decode cX12_init 381 = .ok (.newarray .int, 2) := by decide +kernel
theorem dX12_init_383 : decode cX12_init 383 = .ok (.putfield 143, 3) := by decide +kernel
theorem dX12_init_386 : decode cX12_init 386 = .ok (.aload_n 0, 1) := by decide +kernel
theorem dX12_init_387 : decode cX12_init 387 = .ok (.sipush 240, 3) := by decide +kernel
theorem dX12_init_390 : decode cX12_init 390 = .ok (.newarray .int, 2) := by decide +kernel
theorem dX12_init_392 : decode cX12_init 392 = .ok (.putfield 146, 3) := by decide +kernel
theorem dX12_init_395 : decode cX12_init 395 = .ok (.aload_n 0, 1) := by decide +kernel
theorem dX12_init_396 : decode cX12_init 396 = .ok (.sipush 240, 3) := by decide +kernel
theorem dX12_init_399 : decode cX12_init 399 = .ok (.newarray .int, 2) := by decide +kernel
theorem dX12_init_401 : decode cX12_init 401 = .ok (.putfield 149, 3) := by decide +kernel
theorem dX12_init_404 : decode cX12_init 404 = .ok (.aload_n 0, 1) := by decide +kernel
theorem dX12_init_405 : decode cX12_init 405 = .ok (.bipush 6, 2) := by decide +kernel
theorem dX12_init_407 : decode cX12_init 407 = .ok (.newarray .int, 2) := by decide +kernel
theorem dX12_init_409 : decode cX12_init 409 = .ok (.putfield 152, 3) := by decide +kernel
theorem dX12_init_412 : decode cX12_init 412 = .ok (.aload_n 0, 1) := by decide +kernel
theorem dX12_init_413 : decode cX12_init 413 = .ok (.iconst 4, 1) := by decide +kernel
theorem dX12_init_414 : decode cX12_init 414 = .ok (.newarray .int, 2) := by decide +kernel
theorem dX12_init_416 : decode cX12_init 416 = .ok (.putfield 155, 3) := by decide +kernel
theorem dX12_init_419 : decode cX12_init 419 = .ok (.iconst 0, 1) := by decide +kernel
theorem dX12_init_420 : decode cX12_init 420 = .ok (.istore_n 1, 1) := by decide +kernel
theorem dX12_init_421 : decode cX12_init 421 = .ok (.iload_n 1, 1) := by decide +kernel
theorem dX12_init_422 : decode cX12_init 422 = .ok (.bipush 84, 2) := by decide +kernel
theorem dX12_init_424 : decode cX12_init 424 = .ok (.if_icmp .ge 16, 3) := by decide +kernel
theorem dX12_init_427 : decode cX12_init 427 = .ok (.aload_n 0, 1) := by decide +kernel
theorem dX12_init_428 : decode cX12_init 428 = .ok (.getfield 90, 3) := by decide +kernel
theorem dX12_init_431 : decode cX12_init 431 = .ok (.iload_n 1, 1) := by decide +kernel
theorem dX12_init_432 : decode cX12_init 432 = .ok (.iconst (-1), 1) := by decide +kernel
theorem dX12_init_433 : decode cX12_init 433 = .ok (.iastore, 1) := by decide +kernel
theorem dX12_init_434 : decode cX12_init 434 = .ok (.iinc 1 1, 3) := by decide +kernel
theorem dX12_init_437 : decode cX12_init 437 = .ok (.goto (-16), 3) := by decide +kernel
theorem dX12_init_440 : decode cX12_init 440 = .ok (.return_, 1) := by decide +kernel
theorem dX12_thrown_0 : decode cX12_thrown 0 = .ok (.aload_n 0, 1) := by decide +kernel
theorem dX12_thrown_1 : decode cX12_thrown 1 = .ok (.getfield 158, 3) := by decide +kernel
theorem dX12_thrown_4 : decode cX12_thrown 4 = .ok (.ireturn, 1) := by decide +kernel
theorem dX12_fail_0 : decode cX12_fail 0 = .ok (.aload_n 0, 1) := by decide +kernel
theorem dX12_fail_1 : decode cX12_fail 1 = .ok (.iload_n 1, 1) := by decide +kernel
theorem dX12_fail_2 : decode cX12_fail 2 = .ok (.putfield 158, 3) := by decide +kernel
theorem dX12_fail_5 : decode cX12_fail 5 = .ok (.iconst 0, 1) := by decide +kernel
theorem dX12_fail_6 : decode cX12_fail 6 = .ok (.ireturn, 1) := by decide +kernel
theorem dX12_isIn_0 : decode cX12_isIn 0 = .ok (.iload_n 0, 1) := by decide +kernel
theorem dX12_isIn_1 : decode cX12_isIn 1 = .ok (.iload_n 1, 1) := by decide +kernel
theorem dX12_isIn_2 : decode cX12_isIn 2 = .ok (.if_icmp .lt 12, 3) := by decide +kernel
theorem dX12_isIn_5 : decode cX12_isIn 5 = .ok (.iload_n 0, 1) := by decide +kernel
theorem dX12_isIn_6 : decode cX12_isIn 6 = .ok (.iload_n 2, 1) := by decide +kernel
theorem dX12_isIn_7 : decode cX12_isIn 7 = .ok (.if_icmp .gt 7, 3) := by decide +kernel
theorem dX12_isIn_10 : decode cX12_isIn 10 = .ok (.iconst 1, 1) := by decide +kernel
theorem dX12_isIn_11 : decode cX12_isIn 11 = .ok (.goto 4, 3) := by decide +kernel
theorem dX12_isIn_14 : decode cX12_isIn 14 = .ok (.iconst 0, 1) := by decide +kernel
theorem dX12_isIn_15 : decode cX12_isIn 15 = .ok (.ireturn, 1) := by decide +kernel
theorem dX12_isBook_0 : decode cX12_isBook 0 = .ok (.iload_n 0, 1) := by decide +kernel
theorem dX12_isBook_1 : decode cX12_isBook 1 = .ok (.iconst 0, 1) := by decide +kernel
theorem dX12_isBook_2 : decode cX12_isBook 2 = .ok (.iconst 5, 1) := by decide +kernel
theorem dX12_isBook_3 : decode cX12_isBook 3 = .ok (.invokestatic 161, 3) := by decide +kernel
theorem dX12_isBook_6 : decode cX12_isBook 6 = .ok (.ireturn, 1) := by decide +kernel
theorem dX12_isWay_0 : decode cX12_isWay 0 = .ok (.iload_n 0, 1) := by decide +kernel
theorem dX12_isWay_1 : decode cX12_isWay 1 = .ok (.iconst 0, 1) := by decide +kernel
theorem dX12_isWay_2 : decode cX12_isWay 2 = .ok (.iconst 5, 1) := by decide +kernel
theorem dX12_isWay_3 : decode cX12_isWay 3 = .ok (.invokestatic 161, 3) := by decide +kernel
theorem dX12_isWay_6 : decode cX12_isWay 6 = .ok (.ireturn, 1) := by decide +kernel
theorem dX12_isLeaf_0 : decode cX12_isLeaf 0 = .ok (.iload_n 1, 1) := by decide +kernel
theorem dX12_isLeaf_1 : decode cX12_isLeaf 1 = .ok (.invokestatic 165, 3) := by decide +kernel
theorem dX12_isLeaf_4 : decode cX12_isLeaf 4 = .ok (.ifCond .eq 23, 3) := by decide +kernel
theorem dX12_isLeaf_7 : decode cX12_isLeaf 7 = .ok (.iload_n 2, 1) := by decide +kernel
theorem dX12_isLeaf_8 : decode cX12_isLeaf 8 = .ok (.iconst 0, 1) := by decide +kernel
theorem dX12_isLeaf_9 : decode cX12_isLeaf 9 = .ok (.aload_n 0, 1) := by decide +kernel
theorem dX12_isLeaf_10 : decode cX12_isLeaf 10 = .ok (.getfield 32, 3) := by decide +kernel
theorem dX12_isLeaf_13 : decode cX12_isLeaf 13 = .ok (.iload_n 1, 1) := by decide +kernel
theorem dX12_isLeaf_14 : decode cX12_isLeaf 14 = .ok (.iaload, 1) := by decide +kernel
theorem dX12_isLeaf_15 : decode cX12_isLeaf 15 = .ok (.iconst 1, 1) := by decide +kernel
theorem dX12_isLeaf_16 : decode cX12_isLeaf 16 = .ok (.isub, 1) := by decide +kernel
theorem dX12_isLeaf_17 : decode cX12_isLeaf 17 = .ok (.invokestatic 161, 3) := by decide +kernel
theorem dX12_isLeaf_20 : decode cX12_isLeaf 20 = .ok (.ifCond .eq 7, 3) := by decide +kernel
theorem dX12_isLeaf_23 : decode cX12_isLeaf 23 = .ok (.iconst 1, 1) := by decide +kernel
theorem dX12_isLeaf_24 : decode cX12_isLeaf 24 = .ok (.goto 4, 3) := by decide +kernel
theorem dX12_isLeaf_27 : decode cX12_isLeaf 27 = .ok (.iconst 0, 1) := by decide +kernel
theorem dX12_isLeaf_28 : decode cX12_isLeaf 28 = .ok (.ireturn, 1) := by decide +kernel
theorem dX12_at_0 : decode cX12_at 0 = .ok (.bipush 40, 2) := by decide +kernel
theorem dX12_at_2 : decode cX12_at 2 = .ok (.iload_n 0, 1) := by decide +kernel
theorem dX12_at_3 : decode cX12_at 3 = .ok (.imul, 1) := by decide +kernel
theorem dX12_at_4 : decode cX12_at 4 = .ok (.iload_n 1, 1) := by decide +kernel
theorem dX12_at_5 : decode cX12_at 5 = .ok (.iadd, 1) := by decide +kernel
theorem dX12_at_6 : decode cX12_at 6 = .ok (.ireturn, 1) := by decide +kernel
theorem dX12_feed_0 : decode cX12_feed 0 = .ok (.aload_n 0, 1) := by decide +kernel
theorem dX12_feed_1 : decode cX12_feed 1 = .ok (.iconst 0, 1) := by decide +kernel
theorem dX12_feed_2 : decode cX12_feed 2 = .ok (.putfield 158, 3) := by decide +kernel
theorem dX12_feed_5 : decode cX12_feed 5 = .ok (.aload_n 0, 1) := by decide +kernel
theorem dX12_feed_6 : decode cX12_feed 6 = .ok (.getfield 169, 3) := by decide +kernel
theorem dX12_feed_9 : decode cX12_feed 9 = .ok (.bipush 20, 2) := by decide +kernel
theorem dX12_feed_11 : decode cX12_feed 11 = .ok (.iadd, 1) := by decide +kernel
theorem dX12_feed_12 : decode cX12_feed 12 = .ok (.sipush 500, 3) := by decide +kernel
theorem dX12_feed_15 : decode cX12_feed 15 = .ok (.if_icmp .le 5, 3) := by decide +kernel
theorem dX12_feed_18 : decode cX12_feed 18 = .ok (.iconst (-1), 1) := by decide +kernel
theorem dX12_feed_19 : decode cX12_feed 19 = .ok (.ireturn, 1) := by decide +kernel
theorem dX12_feed_20 : decode cX12_feed 20 = .ok (.iconst 0, 1) := by decide +kernel
theorem dX12_feed_21 : decode cX12_feed 21 = .ok (.istore 6, 2) := by decide +kernel
theorem dX12_feed_23 : decode cX12_feed 23 = .ok (.iload 6, 2) := by decide +kernel
theorem dX12_feed_25 : decode cX12_feed 25 = .ok (.bipush 20, 2) := by decide +kernel
theorem dX12_feed_27 : decode cX12_feed 27 = .ok (.if_icmp .ge 93, 3) := by decide +kernel
theorem dX12_feed_30 : decode cX12_feed 30 = .ok (.iload 6, 2) := by decide +kernel
theorem dX12_feed_32 : decode cX12_feed 32 = .ok (.iconst 4, 1) := by decide +kernel
theorem dX12_feed_33 : decode cX12_feed 33 = .ok (.if_icmp .ge 7, 3) := by decide +kernel
theorem dX12_feed_36 : decode cX12_feed 36 = .ok (.iload_n 1, 1) := by decide +kernel
theorem dX12_feed_37 : decode cX12_feed 37 = .ok (.goto 39, 3) := by decide +kernel
theorem dX12_feed_40 : decode cX12_feed 40 = .ok (.iload 6, 2) := by decide +kernel
theorem dX12_feed_42 : decode cX12_feed 42 = .ok (.bipush 8, 2) := by decide +kernel
theorem dX12_feed_44 : decode cX12_feed 44 = .ok (.if_icmp .ge 7, 3) := by decide +kernel
theorem dX12_feed_47 : decode cX12_feed 47 = .ok (.iload_n 2, 1) := by decide +kernel
theorem dX12_feed_48 : decode cX12_feed 48 = .ok (.goto 28, 3) := by decide +kernel
theorem dX12_feed_51 : decode cX12_feed 51 = .ok (.iload 6, 2) := by decide +kernel
theorem dX12_feed_53 : decode cX12_feed 53 = .ok (.bipush 12, 2) := by decide +kernel
theorem dX12_feed_55 : decode cX12_feed 55 = .ok (.if_icmp .ge 7, 3) := by decide +kernel
theorem dX12_feed_58 : decode cX12_feed 58 = .ok (.iload_n 3, 1) := by decide +kernel
theorem dX12_feed_59 : decode cX12_feed 59 = .ok (.goto 17, 3) := by decide +kernel
theorem dX12_feed_62 : decode cX12_feed 62 = .ok (.iload 6, 2) := by decide +kernel
theorem dX12_feed_64 : decode cX12_feed 64 = .ok (.bipush 16, 2) := by decide +kernel
theorem dX12_feed_66 : decode cX12_feed 66 = .ok (.if_icmp .ge 8, 3) := by decide +kernel
theorem dX12_feed_69 : decode cX12_feed 69 = .ok (.iload 4, 2) := by decide +kernel
theorem dX12_feed_71 : decode cX12_feed 71 = .ok (.goto 5, 3) := by decide +kernel
theorem dX12_feed_74 : decode cX12_feed 74 = .ok (.iload 5, 2) := by decide +kernel
theorem dX12_feed_76 : decode cX12_feed 76 = .ok (.istore 7, 2) := by decide +kernel
theorem dX12_feed_78 : decode cX12_feed 78 = .ok (.aload_n 0, 1) := by decide +kernel
theorem dX12_feed_79 : decode cX12_feed 79 = .ok (.getfield 99, 3) := by decide +kernel
theorem dX12_feed_82 : decode cX12_feed 82 = .ok (.aload_n 0, 1) := by decide +kernel
theorem dX12_feed_83 : decode cX12_feed 83 = .ok (.getfield 169, 3) := by decide +kernel
theorem dX12_feed_86 : decode cX12_feed 86 = .ok (.iload 7, 2) := by decide +kernel
theorem dX12_feed_88 : decode cX12_feed 88 = .ok (.bipush 24, 2) := by decide +kernel
theorem dX12_feed_90 : decode cX12_feed 90 = .ok (.bipush 8, 2) := by decide +kernel
theorem dX12_feed_92 : decode cX12_feed 92 = .ok (.iload 6, 2) := by decide +kernel
theorem dX12_feed_94 : decode cX12_feed 94 = .ok (.iconst 4, 1) := by decide +kernel
theorem dX12_feed_95 : decode cX12_feed 95 = .ok (.irem, 1) := by decide +kernel
theorem dX12_feed_96 : decode cX12_feed 96 = .ok (.imul, 1) := by decide +kernel
theorem dX12_feed_97 : decode cX12_feed 97 = .ok (.isub, 1) := by decide +kernel
theorem dX12_feed_98 : decode cX12_feed 98 = .ok (.ishr, 1) := by decide +kernel
theorem dX12_feed_99 : decode cX12_feed 99 = .ok (.sipush 255, 3) := by decide +kernel
theorem dX12_feed_102 : decode cX12_feed 102 = .ok (.iand, 1) := by decide +kernel
theorem dX12_feed_103 : decode cX12_feed 103 = .ok (.iastore, 1) := by decide +kernel
theorem dX12_feed_104 : decode cX12_feed 104 = .ok (.aload_n 0, 1) := by decide +kernel
theorem dX12_feed_105 : decode cX12_feed 105 = .ok (.dup, 1) := by decide +kernel
theorem dX12_feed_106 : decode cX12_feed 106 = .ok (.getfield 169, 3) := by decide +kernel
theorem dX12_feed_109 : decode cX12_feed 109 = .ok (.iconst 1, 1) := by decide +kernel
theorem dX12_feed_110 : decode cX12_feed 110 = .ok (.iadd, 1) := by decide +kernel
theorem dX12_feed_111 : decode cX12_feed 111 = .ok (.putfield 169, 3) := by decide +kernel
theorem dX12_feed_114 : decode cX12_feed 114 = .ok (.iinc 6 1, 3) := by decide +kernel
theorem dX12_feed_117 : decode cX12_feed 117 = .ok (.goto (-94), 3) := by decide +kernel
theorem dX12_feed_120 : decode cX12_feed 120 = .ok (.aload_n 0, 1) := by decide +kernel
theorem dX12_feed_121 : decode cX12_feed 121 = .ok (.getfield 169, 3) := by decide +kernel
theorem dX12_feed_124 : decode cX12_feed 124 = .ok (.ireturn, 1) := by decide +kernel
theorem dX12_byteAt_0 : decode cX12_byteAt 0 = .ok (.iload_n 1, 1) := by decide +kernel
theorem dX12_byteAt_1 : decode cX12_byteAt 1 = .ok (.aload_n 0, 1) := by decide +kernel
theorem dX12_byteAt_2 : decode cX12_byteAt 2 = .ok (.getfield 172, 3) := by decide +kernel
theorem dX12_byteAt_5 : decode cX12_byteAt 5 = .ok (.if_icmp .ge 12, 3) := by decide +kernel
theorem dX12_byteAt_8 : decode cX12_byteAt 8 = .ok (.aload_n 0, 1) := by decide +kernel
theorem dX12_byteAt_9 : decode cX12_byteAt 9 = .ok (.getfield 99, 3) := by decide +kernel
theorem dX12_byteAt_12 : decode cX12_byteAt 12 = .ok (.iload_n 1, 1) := by decide +kernel
theorem dX12_byteAt_13 : decode cX12_byteAt 13 = .ok (.iaload, 1) := by decide +kernel
theorem dX12_byteAt_14 : decode cX12_byteAt 14 = .ok (.goto 4, 3) := by decide +kernel
theorem dX12_byteAt_17 : decode cX12_byteAt 17 = .ok (.iconst (-1), 1) := by decide +kernel
theorem dX12_byteAt_18 : decode cX12_byteAt 18 = .ok (.ireturn, 1) := by decide +kernel
theorem dX12_isLetter_0 : decode cX12_isLetter 0 = .ok (.iload_n 0, 1) := by decide +kernel
theorem dX12_isLetter_1 : decode cX12_isLetter 1 = .ok (.bipush 97, 2) := by decide +kernel
theorem dX12_isLetter_3 : decode cX12_isLetter 3 = .ok (.if_icmp .lt 13, 3) := by decide +kernel
theorem dX12_isLetter_6 : decode cX12_isLetter 6 = .ok (.iload_n 0, 1) := by decide +kernel
theorem dX12_isLetter_7 : decode cX12_isLetter 7 = .ok (.bipush 122, 2) := by decide +kernel
theorem dX12_isLetter_9 : decode cX12_isLetter 9 = .ok (.if_icmp .gt 7, 3) := by decide +kernel
theorem dX12_isLetter_12 : decode cX12_isLetter 12 = .ok (.iconst 1, 1) := by decide +kernel
theorem dX12_isLetter_13 : decode cX12_isLetter 13 = .ok (.goto 4, 3) := by decide +kernel
theorem dX12_isLetter_16 : decode cX12_isLetter 16 = .ok (.iconst 0, 1) := by decide +kernel
theorem dX12_isLetter_17 : decode cX12_isLetter 17 = .ok (.ireturn, 1) := by decide +kernel
theorem dX12_isDigit_0 : decode cX12_isDigit 0 = .ok (.iload_n 0, 1) := by decide +kernel
theorem dX12_isDigit_1 : decode cX12_isDigit 1 = .ok (.bipush 48, 2) := by decide +kernel
theorem dX12_isDigit_3 : decode cX12_isDigit 3 = .ok (.if_icmp .lt 13, 3) := by decide +kernel
theorem dX12_isDigit_6 : decode cX12_isDigit 6 = .ok (.iload_n 0, 1) := by decide +kernel
theorem dX12_isDigit_7 : decode cX12_isDigit 7 = .ok (.bipush 57, 2) := by decide +kernel
theorem dX12_isDigit_9 : decode cX12_isDigit 9 = .ok (.if_icmp .gt 7, 3) := by decide +kernel
theorem dX12_isDigit_12 : decode cX12_isDigit 12 = .ok (.iconst 1, 1) := by decide +kernel
theorem dX12_isDigit_13 : decode cX12_isDigit 13 = .ok (.goto 4, 3) := by decide +kernel
theorem dX12_isDigit_16 : decode cX12_isDigit 16 = .ok (.iconst 0, 1) := by decide +kernel
theorem dX12_isDigit_17 : decode cX12_isDigit 17 = .ok (.ireturn, 1) := by decide +kernel
theorem dX12_stepOn_0 : decode cX12_stepOn 0 = .ok (.aload_n 0, 1) := by decide +kernel
theorem dX12_stepOn_1 : decode cX12_stepOn 1 = .ok (.aload_n 0, 1) := by decide +kernel
theorem dX12_stepOn_2 : decode cX12_stepOn 2 = .ok (.getfield 175, 3) := by decide +kernel
theorem dX12_stepOn_5 : decode cX12_stepOn 5 = .ok (.invokevirtual 178, 3) := by decide +kernel
theorem dX12_stepOn_8 : decode cX12_stepOn 8 = .ok (.bipush 32, 2) := by decide +kernel
theorem dX12_stepOn_10 : decode cX12_stepOn 10 = .ok (.if_icmp .eq 16, 3) := by decide +kernel
theorem dX12_stepOn_13 : decode cX12_stepOn 13 = .ok (.aload_n 0, 1) := by decide +kernel
theorem dX12_stepOn_14 : decode cX12_stepOn 14 = .ok (.aload_n 0, 1) := by decide +kernel
theorem dX12_stepOn_15 : decode cX12_stepOn 15 = .ok (.getfield 175, 3) := by decide +kernel
theorem dX12_stepOn_18 : decode cX12_stepOn 18 = .ok (.invokevirtual 178, 3) := by decide +kernel
theorem dX12_stepOn_21 : decode cX12_stepOn 21 = .ok (.bipush 10, 2) := by decide +kernel
theorem dX12_stepOn_23 : decode cX12_stepOn 23 = .ok (.if_icmp .ne 16, 3) := by decide +kernel
theorem dX12_stepOn_26 : decode cX12_stepOn 26 = .ok (.aload_n 0, 1) := by decide +kernel
theorem dX12_stepOn_27 : decode cX12_stepOn 27 = .ok (.dup, 1) := by decide +kernel
theorem dX12_stepOn_28 : decode cX12_stepOn 28 = .ok (.getfield 175, 3) := by decide +kernel
theorem dX12_stepOn_31 : decode cX12_stepOn 31 = .ok (.iconst 1, 1) := by decide +kernel
theorem dX12_stepOn_32 : decode cX12_stepOn 32 = .ok (.iadd, 1) := by decide +kernel
theorem dX12_stepOn_33 : decode cX12_stepOn 33 = .ok (.putfield 175, 3) := by decide +kernel
theorem dX12_stepOn_36 : decode cX12_stepOn 36 = .ok (.goto (-36), 3) := by decide +kernel
theorem dX12_stepOn_39 : decode cX12_stepOn 39 = .ok (.aload_n 0, 1) := by decide +kernel
theorem dX12_stepOn_40 : decode cX12_stepOn 40 = .ok (.aload_n 0, 1) := by decide +kernel
theorem dX12_stepOn_41 : decode cX12_stepOn 41 = .ok (.getfield 175, 3) := by decide +kernel
theorem dX12_stepOn_44 : decode cX12_stepOn 44 = .ok (.putfield 182, 3) := by decide +kernel
theorem dX12_stepOn_47 : decode cX12_stepOn 47 = .ok (.aload_n 0, 1) := by decide +kernel
theorem dX12_stepOn_48 : decode cX12_stepOn 48 = .ok (.aload_n 0, 1) := by decide +kernel
theorem dX12_stepOn_49 : decode cX12_stepOn 49 = .ok (.getfield 175, 3) := by decide +kernel
theorem dX12_stepOn_52 : decode cX12_stepOn 52 = .ok (.invokevirtual 178, 3) := by decide +kernel
theorem dX12_stepOn_55 : decode cX12_stepOn 55 = .ok (.istore_n 1, 1) := by decide +kernel
theorem dX12_stepOn_56 : decode cX12_stepOn 56 = .ok (.iload_n 1, 1) := by decide +kernel
theorem dX12_stepOn_57 : decode cX12_stepOn 57 = .ok (.iconst (-1), 1) := by decide +kernel
theorem dX12_stepOn_58 : decode cX12_stepOn 58 = .ok (.if_icmp .ne 11, 3) := by decide +kernel
theorem dX12_stepOn_61 : decode cX12_stepOn 61 = .ok (.aload_n 0, 1) := by decide +kernel
theorem dX12_stepOn_62 : decode cX12_stepOn 62 = .ok (.iconst 0, 1) := by decide +kernel
theorem dX12_stepOn_63 : decode cX12_stepOn 63 = .ok (.putfield 185, 3) := by decide +kernel
theorem dX12_stepOn_66 : decode cX12_stepOn 66 = .ok (.goto 145, 3) := by decide +kernel
theorem dX12_stepOn_69 : decode cX12_stepOn 69 = .ok (.iload_n 1, 1) := by decide +kernel
theorem dX12_stepOn_70 : decode cX12_stepOn 70 = .ok (.invokestatic 188, 3) := by decide +kernel
theorem dX12_stepOn_73 : decode cX12_stepOn 73 = .ok (.ifCond .eq 38, 3) := by decide +kernel
theorem dX12_stepOn_76 : decode cX12_stepOn 76 = .ok (.aload_n 0, 1) := by decide +kernel
theorem dX12_stepOn_77 : decode cX12_stepOn 77 = .ok (.aload_n 0, 1) := by decide +kernel
theorem dX12_stepOn_78 : decode cX12_stepOn 78 = .ok (.getfield 175, 3) := by decide +kernel
theorem dX12_stepOn_81 : decode cX12_stepOn 81 = .ok (.invokevirtual 178, 3) := by decide +kernel
theorem dX12_stepOn_84 : decode cX12_stepOn 84 = .ok (.invokestatic 188, 3) := by decide +kernel
theorem dX12_stepOn_87 : decode cX12_stepOn 87 = .ok (.ifCond .eq 16, 3) := by decide +kernel
theorem dX12_stepOn_90 : decode cX12_stepOn 90 = .ok (.aload_n 0, 1) := by decide +kernel
theorem dX12_stepOn_91 : decode cX12_stepOn 91 = .ok (.dup, 1) := by decide +kernel
theorem dX12_stepOn_92 : decode cX12_stepOn 92 = .ok (.getfield 175, 3) := by decide +kernel
theorem dX12_stepOn_95 : decode cX12_stepOn 95 = .ok (.iconst 1, 1) := by decide +kernel
theorem dX12_stepOn_96 : decode cX12_stepOn 96 = .ok (.iadd, 1) := by decide +kernel
theorem dX12_stepOn_97 : decode cX12_stepOn 97 = .ok (.putfield 175, 3) := by decide +kernel
theorem dX12_stepOn_100 : decode cX12_stepOn 100 = .ok (.goto (-24), 3) := by decide +kernel
theorem dX12_stepOn_103 : decode cX12_stepOn 103 = .ok (.aload_n 0, 1) := by decide +kernel
theorem dX12_stepOn_104 : decode cX12_stepOn 104 = .ok (.iconst 1, 1) := by decide +kernel
theorem dX12_stepOn_105 : decode cX12_stepOn 105 = .ok (.putfield 185, 3) := by decide +kernel
theorem dX12_stepOn_108 : decode cX12_stepOn 108 = .ok (.goto 103, 3) := by decide +kernel
theorem dX12_stepOn_111 : decode cX12_stepOn 111 = .ok (.iload_n 1, 1) := by decide +kernel
theorem dX12_stepOn_112 : decode cX12_stepOn 112 = .ok (.invokestatic 191, 3) := by decide +kernel
theorem dX12_stepOn_115 : decode cX12_stepOn 115 = .ok (.ifCond .eq 71, 3) := by decide +kernel
theorem dX12_stepOn_118 : decode cX12_stepOn 118 = .ok (.aload_n 0, 1) := by decide +kernel
theorem dX12_stepOn_119 : decode cX12_stepOn 119 = .ok (.iconst 0, 1) := by decide +kernel
theorem dX12_stepOn_120 : decode cX12_stepOn 120 = .ok (.putfield 194, 3) := by decide +kernel
theorem dX12_stepOn_123 : decode cX12_stepOn 123 = .ok (.aload_n 0, 1) := by decide +kernel
theorem dX12_stepOn_124 : decode cX12_stepOn 124 = .ok (.aload_n 0, 1) := by decide +kernel
theorem dX12_stepOn_125 : decode cX12_stepOn 125 = .ok (.getfield 175, 3) := by decide +kernel
theorem dX12_stepOn_128 : decode cX12_stepOn 128 = .ok (.invokevirtual 178, 3) := by decide +kernel
theorem dX12_stepOn_131 : decode cX12_stepOn 131 = .ok (.invokestatic 191, 3) := by decide +kernel
theorem dX12_stepOn_134 : decode cX12_stepOn 134 = .ok (.ifCond .eq 44, 3) := by decide +kernel
theorem dX12_stepOn_137 : decode cX12_stepOn 137 = .ok (.aload_n 0, 1) := by decide +kernel
theorem dX12_stepOn_138 : decode cX12_stepOn 138 = .ok (.ldc 197, 2) := by decide +kernel
theorem dX12_stepOn_140 : decode cX12_stepOn 140 = .ok (.bipush 10, 2) := by decide +kernel
theorem dX12_stepOn_142 : decode cX12_stepOn 142 = .ok (.aload_n 0, 1) := by decide +kernel
theorem dX12_stepOn_143 : decode cX12_stepOn 143 = .ok (.getfield 194, 3) := by decide +kernel
theorem dX12_stepOn_146 : decode cX12_stepOn 146 = .ok (.imul, 1) := by decide +kernel
theorem dX12_stepOn_147 : decode cX12_stepOn 147 = .ok (.aload_n 0, 1) := by decide +kernel
theorem dX12_stepOn_148 : decode cX12_stepOn 148 = .ok (.aload_n 0, 1) := by decide +kernel
theorem dX12_stepOn_149 : decode cX12_stepOn 149 = .ok (.getfield 175, 3) := by decide +kernel
theorem dX12_stepOn_152 : decode cX12_stepOn 152 = .ok (.invokevirtual 178, 3) := by decide +kernel
theorem dX12_stepOn_155 : decode cX12_stepOn 155 = .ok (.iadd, 1) := by decide +kernel
theorem dX12_stepOn_156 : decode cX12_stepOn 156 = .ok (.bipush 48, 2) := by decide +kernel
theorem dX12_stepOn_158 : decode cX12_stepOn 158 = .ok (.isub, 1) := by decide +kernel
theorem dX12_stepOn_159 : decode cX12_stepOn 159 = .ok (.invokestatic 198, 3) := by decide +kernel
theorem dX12_stepOn_162 : decode cX12_stepOn 162 = .ok (.putfield 194, 3) := by decide +kernel
theorem dX12_stepOn_165 : decode cX12_stepOn 165 = .ok (.aload_n 0, 1) := by decide +kernel
theorem dX12_stepOn_166 : decode cX12_stepOn 166 = .ok (.dup, 1) := by decide +kernel
theorem dX12_stepOn_167 : decode cX12_stepOn 167 = .ok (.getfield 175, 3) := by decide +kernel
theorem dX12_stepOn_170 : decode cX12_stepOn 170 = .ok (.iconst 1, 1) := by decide +kernel
theorem dX12_stepOn_171 : decode cX12_stepOn 171 = .ok (.iadd, 1) := by decide +kernel
theorem dX12_stepOn_172 : decode cX12_stepOn 172 = .ok (.putfield 175, 3) := by decide +kernel
theorem dX12_stepOn_175 : decode cX12_stepOn 175 = .ok (.goto (-52), 3) := by decide +kernel
theorem dX12_stepOn_178 : decode cX12_stepOn 178 = .ok (.aload_n 0, 1) := by decide +kernel
theorem dX12_stepOn_179 : decode cX12_stepOn 179 = .ok (.iconst 2, 1) := by decide +kernel
theorem dX12_stepOn_180 : decode cX12_stepOn 180 = .ok (.putfield 185, 3) := by decide +kernel
theorem dX12_stepOn_183 : decode cX12_stepOn 183 = .ok (.goto 28, 3) := by decide +kernel
theorem dX12_stepOn_186 : decode cX12_stepOn 186 = .ok (.aload_n 0, 1) := by decide +kernel
theorem dX12_stepOn_187 : decode cX12_stepOn 187 = .ok (.dup, 1) := by decide +kernel
theorem dX12_stepOn_188 : decode cX12_stepOn 188 = .ok (.getfield 175, 3) := by decide +kernel
theorem dX12_stepOn_191 : decode cX12_stepOn 191 = .ok (.iconst 1, 1) := by decide +kernel
theorem dX12_stepOn_192 : decode cX12_stepOn 192 = .ok (.iadd, 1) := by decide +kernel
theorem dX12_stepOn_193 : decode cX12_stepOn 193 = .ok (.putfield 175, 3) := by decide +kernel
theorem dX12_stepOn_196 : decode cX12_stepOn 196 = .ok (.aload_n 0, 1) := by decide +kernel
theorem dX12_stepOn_197 : decode cX12_stepOn 197 = .ok (.iload_n 1, 1) := by decide +kernel
theorem dX12_stepOn_198 : decode cX12_stepOn 198 = .ok (.bipush 59, 2) := by decide +kernel
theorem dX12_stepOn_200 : decode cX12_stepOn 200 = .ok (.if_icmp .ne 7, 3) := by decide +kernel
theorem dX12_stepOn_203 : decode cX12_stepOn 203 = .ok (.iconst 3, 1) := by decide +kernel
theorem dX12_stepOn_204 : decode cX12_stepOn 204 = .ok (.goto 4, 3) := by decide +kernel
theorem dX12_stepOn_207 : decode cX12_stepOn 207 = .ok (.iconst 4, 1) := by decide +kernel
theorem dX12_stepOn_208 : decode cX12_stepOn 208 = .ok (.putfield 185, 3) := by decide +kernel
theorem dX12_stepOn_211 : decode cX12_stepOn 211 = .ok (.aload_n 0, 1) := by decide +kernel
theorem dX12_stepOn_212 : decode cX12_stepOn 212 = .ok (.aload_n 0, 1) := by decide +kernel
theorem dX12_stepOn_213 : decode cX12_stepOn 213 = .ok (.getfield 175, 3) := by decide +kernel
theorem dX12_stepOn_216 : decode cX12_stepOn 216 = .ok (.putfield 204, 3) := by decide +kernel
theorem dX12_stepOn_219 : decode cX12_stepOn 219 = .ok (.return_, 1) := by decide +kernel
theorem dX12_wrong_0 : decode cX12_wrong 0 = .ok (.aload_n 0, 1) := by decide +kernel
theorem dX12_wrong_1 : decode cX12_wrong 1 = .ok (.getfield 207, 3) := by decide +kernel
theorem dX12_wrong_4 : decode cX12_wrong 4 = .ok (.ifCond .eq 4, 3) := by decide +kernel
theorem dX12_wrong_7 : decode cX12_wrong 7 = .ok (.return_, 1) := by decide +kernel
theorem dX12_wrong_8 : decode cX12_wrong 8 = .ok (.aload_n 0, 1) := by decide +kernel
theorem dX12_wrong_9 : decode cX12_wrong 9 = .ok (.iload_n 1, 1) := by decide +kernel
theorem dX12_wrong_10 : decode cX12_wrong 10 = .ok (.putfield 207, 3) := by decide +kernel
theorem dX12_wrong_13 : decode cX12_wrong 13 = .ok (.aload_n 0, 1) := by decide +kernel
theorem dX12_wrong_14 : decode cX12_wrong 14 = .ok (.aload_n 0, 1) := by decide +kernel
theorem dX12_wrong_15 : decode cX12_wrong 15 = .ok (.getfield 182, 3) := by decide +kernel
theorem dX12_wrong_18 : decode cX12_wrong 18 = .ok (.putfield 210, 3) := by decide +kernel
theorem dX12_wrong_21 : decode cX12_wrong 21 = .ok (.return_, 1) := by decide +kernel
theorem dX12_is_0 : decode cX12_is 0 = .ok (.aload_n 0, 1) := by decide +kernel
theorem dX12_is_1 : decode cX12_is 1 = .ok (.getfield 207, 3) := by decide +kernel
theorem dX12_is_4 : decode cX12_is 4 = .ok (.ifCond .ne 31, 3) := by decide +kernel
theorem dX12_is_7 : decode cX12_is 7 = .ok (.aload_n 0, 1) := by decide +kernel
theorem dX12_is_8 : decode cX12_is 8 = .ok (.getfield 185, 3) := by decide +kernel
theorem dX12_is_11 : decode cX12_is 11 = .ok (.iconst 1, 1) := by decide +kernel
theorem dX12_is_12 : decode cX12_is 12 = .ok (.if_icmp .ne 23, 3) := by decide +kernel
theorem dX12_is_15 : decode cX12_is 15 = .ok (.aload_n 1, 1) := by decide +kernel
theorem dX12_is_16 : decode cX12_is 16 = .ok (.invokevirtual 213, 3) := by decide +kernel
theorem dX12_is_19 : decode cX12_is 19 = .ok (.aload_n 0, 1) := by decide +kernel
theorem dX12_is_20 : decode cX12_is 20 = .ok (.getfield 204, 3) := by decide +kernel
theorem dX12_is_23 : decode cX12_is 23 = .ok (.aload_n 0, 1) := by decide +kernel
theorem dX12_is_24 : decode cX12_is 24 = .ok (.getfield 182, 3) := by decide +kernel
theorem dX12_is_27 : decode cX12_is 27 = .ok (.isub, 1) := by decide +kernel
theorem dX12_is_28 : decode cX12_is 28 = .ok (.if_icmp .ne 7, 3) := by decide +kernel
theorem dX12_is_31 : decode cX12_is 31 = .ok (.iconst 1, 1) := by decide +kernel
theorem dX12_is_32 : decode cX12_is 32 = .ok (.goto 4, 3) := by decide +kernel
theorem dX12_is_35 : decode cX12_is 35 = .ok (.iconst 0, 1) := by decide +kernel
theorem dX12_is_36 : decode cX12_is 36 = .ok (.istore_n 2, 1) := by decide +kernel
theorem dX12_is_37 : decode cX12_is 37 = .ok (.iconst 0, 1) := by decide +kernel
theorem dX12_is_38 : decode cX12_is 38 = .ok (.istore_n 3, 1) := by decide +kernel
theorem dX12_is_39 : decode cX12_is 39 = .ok (.iload_n 2, 1) := by decide +kernel
theorem dX12_is_40 : decode cX12_is 40 = .ok (.ifCond .eq 42, 3) := by decide +kernel
theorem dX12_is_43 : decode cX12_is 43 = .ok (.iload_n 3, 1) := by decide +kernel
theorem dX12_is_44 : decode cX12_is 44 = .ok (.aload_n 1, 1) := by decide +kernel
theorem dX12_is_45 : decode cX12_is 45 = .ok (.invokevirtual 213, 3) := by decide +kernel
theorem dX12_is_48 : decode cX12_is 48 = .ok (.if_icmp .ge 34, 3) := by decide +kernel
theorem dX12_is_51 : decode cX12_is 51 = .ok (.aload_n 1, 1) := by decide +kernel
theorem dX12_is_52 : decode cX12_is 52 = .ok (.iload_n 3, 1) := by decide +kernel
theorem dX12_is_53 : decode cX12_is 53 = .ok (.invokevirtual 217, 3) := by decide +kernel
theorem dX12_is_56 : decode cX12_is 56 = .ok (.aload_n 0, 1) := by decide +kernel
theorem dX12_is_57 : decode cX12_is 57 = .ok (.getfield 99, 3) := by decide +kernel
theorem dX12_is_60 : decode cX12_is 60 = .ok (.aload_n 0, 1) := by decide +kernel
theorem dX12_is_61 : decode cX12_is 61 = .ok (.getfield 182, 3) := by decide +kernel
theorem dX12_is_64 : decode cX12_is 64 = .ok (.iload_n 3, 1) := by decide +kernel
theorem dX12_is_65 : decode cX12_is 65 = .ok (.iadd, 1) := by decide +kernel
theorem dX12_is_66 : decode cX12_is 66 = .ok (.iaload, 1) := by decide +kernel
theorem dX12_is_67 : decode cX12_is 67 = .ok (.if_icmp .ne 7, 3) := by decide +kernel
theorem dX12_is_70 : decode cX12_is 70 = .ok (.iconst 1, 1) := by decide +kernel
theorem dX12_is_71 : decode cX12_is 71 = .ok (.goto 4, 3) := by decide +kernel
theorem dX12_is_74 : decode cX12_is 74 = .ok (.iconst 0, 1) := by decide +kernel
theorem dX12_is_75 : decode cX12_is 75 = .ok (.istore_n 2, 1) := by decide +kernel
theorem dX12_is_76 : decode cX12_is 76 = .ok (.iinc 3 1, 3) := by decide +kernel
theorem dX12_is_79 : decode cX12_is 79 = .ok (.goto (-40), 3) := by decide +kernel
theorem dX12_is_82 : decode cX12_is 82 = .ok (.iload_n 2, 1) := by decide +kernel
theorem dX12_is_83 : decode cX12_is 83 = .ok (.ireturn, 1) := by decide +kernel
theorem dX12_which_0 : decode cX12_which 0 = .ok (.iconst 0, 1) := by decide +kernel
theorem dX12_which_1 : decode cX12_which 1 = .ok (.istore_n 2, 1) := by decide +kernel
theorem dX12_which_2 : decode cX12_which 2 = .ok (.iload_n 2, 1) := by decide +kernel
theorem dX12_which_3 : decode cX12_which 3 = .ok (.aload_n 1, 1) := by decide +kernel
theorem dX12_which_4 : decode cX12_which 4 = .ok (.arraylength, 1) := by decide +kernel
theorem dX12_which_5 : decode cX12_which 5 = .ok (.if_icmp .ge 21, 3) := by decide +kernel
theorem dX12_which_8 : decode cX12_which 8 = .ok (.aload_n 0, 1) := by decide +kernel
theorem dX12_which_9 : decode cX12_which 9 = .ok (.aload_n 1, 1) := by decide +kernel
theorem dX12_which_10 : decode cX12_which 10 = .ok (.iload_n 2, 1) := by decide +kernel
theorem dX12_which_11 : decode cX12_which 11 = .ok (.aaload, 1) := by decide +kernel
theorem dX12_which_12 : decode cX12_which 12 = .ok (.invokevirtual 221, 3) := by decide +kernel
theorem dX12_which_15 : decode cX12_which 15 = .ok (.ifCond .eq 5, 3) := by decide +kernel
theorem dX12_which_18 : decode cX12_which 18 = .ok (.iload_n 2, 1) := by decide +kernel
theorem dX12_which_19 : decode cX12_which 19 = .ok (.ireturn, 1) := by decide +kernel
theorem dX12_which_20 : decode cX12_which 20 = .ok (.iinc 2 1, 3) := by decide +kernel
theorem dX12_which_23 : decode cX12_which 23 = .ok (.goto (-21), 3) := by decide +kernel
theorem dX12_which_26 : decode cX12_which 26 = .ok (.iconst (-1), 1) := by decide +kernel
theorem dX12_which_27 : decode cX12_which 27 = .ok (.ireturn, 1) := by decide +kernel
theorem dX12_passes_0 : decode cX12_passes 0 = .ok (.aload_n 0, 1) := by decide +kernel
theorem dX12_passes_1 : decode cX12_passes 1 = .ok (.aload_n 1, 1) := by decide +kernel
theorem dX12_passes_2 : decode cX12_passes 2 = .ok (.invokevirtual 221, 3) := by decide +kernel
theorem dX12_passes_5 : decode cX12_passes 5 = .ok (.istore_n 2, 1) := by decide +kernel
theorem dX12_passes_6 : decode cX12_passes 6 = .ok (.iload_n 2, 1) := by decide +kernel
theorem dX12_passes_7 : decode cX12_passes 7 = .ok (.ifCond .eq 7, 3) := by decide +kernel
theorem dX12_passes_10 : decode cX12_passes 10 = .ok (.aload_n 0, 1) := by decide +kernel
theorem dX12_passes_11 : decode cX12_passes 11 = .ok (.invokevirtual 225, 3) := by decide +kernel
theorem dX12_passes_14 : decode cX12_passes 14 = .ok (.iload_n 2, 1) := by decide +kernel
theorem dX12_passes_15 : decode cX12_passes 15 = .ok (.ireturn, 1) := by decide +kernel
theorem dX12_readNumber_0 : decode cX12_readNumber 0 = .ok (.aload_n 0, 1) := by decide +kernel
theorem dX12_readNumber_1 : decode cX12_readNumber 1 = .ok (.getfield 207, 3) := by decide +kernel
theorem dX12_readNumber_4 : decode cX12_readNumber 4 = .ok (.ifCond .eq 5, 3) := by decide +kernel
theorem dX12_readNumber_7 : decode cX12_readNumber 7 = .ok (.iconst 0, 1) := by decide +kernel
theorem dX12_readNumber_8 : decode cX12_readNumber 8 = .ok (.ireturn, 1) := by decide +kernel
theorem dX12_readNumber_9 : decode cX12_readNumber 9 = .ok (.aload_n 0, 1) := by decide +kernel
theorem dX12_readNumber_10 : decode cX12_readNumber 10 = .ok (.getfield 185, 3) := by decide +kernel
theorem dX12_readNumber_13 : decode cX12_readNumber 13 = .ok (.iconst 2, 1) := by decide +kernel
theorem dX12_readNumber_14 : decode cX12_readNumber 14 = .ok (.if_icmp .eq 11, 3) := by decide +kernel
theorem dX12_readNumber_17 : decode cX12_readNumber 17 = .ok (.aload_n 0, 1) := by decide +kernel
theorem dX12_readNumber_18 : decode cX12_readNumber 18 = .ok (.iconst 1, 1) := by decide +kernel
theorem dX12_readNumber_19 : decode cX12_readNumber 19 = .ok (.invokevirtual 228, 3) := by decide +kernel
theorem dX12_readNumber_22 : decode cX12_readNumber 22 = .ok (.goto 37, 3) := by decide +kernel
theorem dX12_readNumber_25 : decode cX12_readNumber 25 = .ok (.aload_n 0, 1) := by decide +kernel
theorem dX12_readNumber_26 : decode cX12_readNumber 26 = .ok (.getfield 204, 3) := by decide +kernel
theorem dX12_readNumber_29 : decode cX12_readNumber 29 = .ok (.aload_n 0, 1) := by decide +kernel
theorem dX12_readNumber_30 : decode cX12_readNumber 30 = .ok (.getfield 182, 3) := by decide +kernel
theorem dX12_readNumber_33 : decode cX12_readNumber 33 = .ok (.isub, 1) := by decide +kernel
theorem dX12_readNumber_34 : decode cX12_readNumber 34 = .ok (.iconst 4, 1) := by decide +kernel
theorem dX12_readNumber_35 : decode cX12_readNumber 35 = .ok (.if_icmp .gt 19, 3) := by decide +kernel
theorem dX12_readNumber_38 : decode cX12_readNumber 38 = .ok (.aload_n 0, 1) := by decide +kernel
theorem dX12_readNumber_39 : decode cX12_readNumber 39 = .ok (.getfield 194, 3) := by decide +kernel
theorem dX12_readNumber_42 : decode cX12_readNumber 42 = .ok (.iload_n 1, 1) := by decide +kernel
theorem dX12_readNumber_43 : decode cX12_readNumber 43 = .ok (.if_icmp .lt 11, 3) := by decide +kernel
theorem dX12_readNumber_46 : decode cX12_readNumber 46 = .ok (.aload_n 0, 1) := by decide +kernel
theorem dX12_readNumber_47 : decode cX12_readNumber 47 = .ok (.getfield 194, 3) := by decide +kernel
theorem dX12_readNumber_50 : decode cX12_readNumber 50 = .ok (.iload_n 2, 1) := by decide +kernel
theorem dX12_readNumber_51 : decode cX12_readNumber 51 = .ok (.if_icmp .le 8, 3) := by decide +kernel
theorem dX12_readNumber_54 : decode cX12_readNumber 54 = .ok (.aload_n 0, 1) := by decide +kernel
theorem dX12_readNumber_55 : decode cX12_readNumber 55 = .ok (.iconst 2, 1) := by decide +kernel
theorem dX12_readNumber_56 : decode cX12_readNumber 56 = .ok (.invokevirtual 228, 3) := by decide +kernel
theorem dX12_readNumber_59 : decode cX12_readNumber 59 = .ok (.aload_n 0, 1) := by decide +kernel
theorem dX12_readNumber_60 : decode cX12_readNumber 60 = .ok (.getfield 194, 3) := by decide +kernel
theorem dX12_readNumber_63 : decode cX12_readNumber 63 = .ok (.istore_n 3, 1) := by decide +kernel
theorem dX12_readNumber_64 : decode cX12_readNumber 64 = .ok (.aload_n 0, 1) := by decide +kernel
theorem dX12_readNumber_65 : decode cX12_readNumber 65 = .ok (.getfield 207, 3) := by decide +kernel
theorem dX12_readNumber_68 : decode cX12_readNumber 68 = .ok (.ifCond .ne 7, 3) := by decide +kernel
theorem dX12_readNumber_71 : decode cX12_readNumber 71 = .ok (.aload_n 0, 1) := by decide +kernel
theorem dX12_readNumber_72 : decode cX12_readNumber 72 = .ok (.invokevirtual 225, 3) := by decide +kernel
theorem dX12_readNumber_75 : decode cX12_readNumber 75 = .ok (.iload_n 3, 1) := by decide +kernel
theorem dX12_readNumber_76 : decode cX12_readNumber 76 = .ok (.ireturn, 1) := by decide +kernel
theorem dX12_perhaps_0 : decode cX12_perhaps 0 = .ok (.aload_n 0, 1) := by decide +kernel
theorem dX12_perhaps_1 : decode cX12_perhaps 1 = .ok (.aload_n 1, 1) := by decide +kernel
theorem dX12_perhaps_2 : decode cX12_perhaps 2 = .ok (.invokevirtual 232, 3) := by decide +kernel
theorem dX12_perhaps_5 : decode cX12_perhaps 5 = .ok (.ifCond .eq 12, 3) := by decide +kernel
theorem dX12_perhaps_8 : decode cX12_perhaps 8 = .ok (.aload_n 0, 1) := by decide +kernel
theorem dX12_perhaps_9 : decode cX12_perhaps 9 = .ok (.iconst 0, 1) := by decide +kernel
theorem dX12_perhaps_10 : decode cX12_perhaps 10 = .ok (.iload_n 2, 1) := by decide +kernel
theorem dX12_perhaps_11 : decode cX12_perhaps 11 = .ok (.invokevirtual 235, 3) := by decide +kernel
theorem dX12_perhaps_14 : decode cX12_perhaps 14 = .ok (.goto 4, 3) := by decide +kernel
theorem dX12_perhaps_17 : decode cX12_perhaps 17 = .ok (.iload_n 3, 1) := by decide +kernel
theorem dX12_perhaps_18 : decode cX12_perhaps 18 = .ok (.ireturn, 1) := by decide +kernel
theorem dX12_semi_0 : decode cX12_semi 0 = .ok (.aload_n 0, 1) := by decide +kernel
theorem dX12_semi_1 : decode cX12_semi 1 = .ok (.getfield 207, 3) := by decide +kernel
theorem dX12_semi_4 : decode cX12_semi 4 = .ok (.ifCond .ne 16, 3) := by decide +kernel
theorem dX12_semi_7 : decode cX12_semi 7 = .ok (.aload_n 0, 1) := by decide +kernel
theorem dX12_semi_8 : decode cX12_semi 8 = .ok (.getfield 185, 3) := by decide +kernel
theorem dX12_semi_11 : decode cX12_semi 11 = .ok (.iconst 3, 1) := by decide +kernel
theorem dX12_semi_12 : decode cX12_semi 12 = .ok (.if_icmp .eq 8, 3) := by decide +kernel
theorem dX12_semi_15 : decode cX12_semi 15 = .ok (.aload_n 0, 1) := by decide +kernel
theorem dX12_semi_16 : decode cX12_semi 16 = .ok (.iconst 1, 1) := by decide +kernel
theorem dX12_semi_17 : decode cX12_semi 17 = .ok (.invokevirtual 228, 3) := by decide +kernel
theorem dX12_semi_20 : decode cX12_semi 20 = .ok (.aload_n 0, 1) := by decide +kernel
theorem dX12_semi_21 : decode cX12_semi 21 = .ok (.getfield 207, 3) := by decide +kernel
theorem dX12_semi_24 : decode cX12_semi 24 = .ok (.ifCond .ne 7, 3) := by decide +kernel
theorem dX12_semi_27 : decode cX12_semi 27 = .ok (.aload_n 0, 1) := by decide +kernel
theorem dX12_semi_28 : decode cX12_semi 28 = .ok (.invokevirtual 225, 3) := by decide +kernel
theorem dX12_semi_31 : decode cX12_semi 31 = .ok (.return_, 1) := by decide +kernel
theorem dX12_begin_0 : decode cX12_begin 0 = .ok (.aload_n 0, 1) := by decide +kernel
theorem dX12_begin_1 : decode cX12_begin 1 = .ok (.iconst 0, 1) := by decide +kernel
theorem dX12_begin_2 : decode cX12_begin 2 = .ok (.putfield 169, 3) := by decide +kernel
theorem dX12_begin_5 : decode cX12_begin 5 = .ok (.aload_n 0, 1) := by decide +kernel
theorem dX12_begin_6 : decode cX12_begin 6 = .ok (.iload_n 1, 1) := by decide +kernel
theorem dX12_begin_7 : decode cX12_begin 7 = .ok (.putfield 172, 3) := by decide +kernel
theorem dX12_begin_10 : decode cX12_begin 10 = .ok (.aload_n 0, 1) := by decide +kernel
theorem dX12_begin_11 : decode cX12_begin 11 = .ok (.iconst 0, 1) := by decide +kernel
theorem dX12_begin_12 : decode cX12_begin 12 = .ok (.putfield 175, 3) := by decide +kernel
theorem dX12_begin_15 : decode cX12_begin 15 = .ok (.aload_n 0, 1) := by decide +kernel
theorem dX12_begin_16 : decode cX12_begin 16 = .ok (.iconst 0, 1) := by decide +kernel
theorem dX12_begin_17 : decode cX12_begin 17 = .ok (.putfield 207, 3) := by decide +kernel
theorem dX12_begin_20 : decode cX12_begin 20 = .ok (.aload_n 0, 1) := by decide +kernel
theorem dX12_begin_21 : decode cX12_begin 21 = .ok (.iconst (-1), 1) := by decide +kernel
theorem dX12_begin_22 : decode cX12_begin 22 = .ok (.putfield 102, 3) := by decide +kernel
theorem dX12_begin_25 : decode cX12_begin 25 = .ok (.aload_n 0, 1) := by decide +kernel
theorem dX12_begin_26 : decode cX12_begin 26 = .ok (.invokevirtual 225, 3) := by decide +kernel
theorem dX12_begin_29 : decode cX12_begin 29 = .ok (.return_, 1) := by decide +kernel
theorem dX12_fallen_0 : decode cX12_fallen 0 = .ok (.aload_n 0, 1) := by decide +kernel
theorem dX12_fallen_1 : decode cX12_fallen 1 = .ok (.aload_n 0, 1) := by decide +kernel
theorem dX12_fallen_2 : decode cX12_fallen 2 = .ok (.getfield 210, 3) := by decide +kernel
theorem dX12_fallen_5 : decode cX12_fallen 5 = .ok (.putfield 102, 3) := by decide +kernel
theorem dX12_fallen_8 : decode cX12_fallen 8 = .ok (.aload_n 0, 1) := by decide +kernel
theorem dX12_fallen_9 : decode cX12_fallen 9 = .ok (.getfield 96, 3) := by decide +kernel
theorem dX12_fallen_12 : decode cX12_fallen 12 = .ok (.iconst 0, 1) := by decide +kernel
theorem dX12_fallen_13 : decode cX12_fallen 13 = .ok (.dup2, 1) := by decide +kernel
theorem dX12_fallen_14 : decode cX12_fallen 14 = .ok (.iaload, 1) := by decide +kernel
theorem dX12_fallen_15 : decode cX12_fallen 15 = .ok (.iconst 1, 1) := by decide +kernel
theorem dX12_fallen_16 : decode cX12_fallen 16 = .ok (.iadd, 1) := by decide +kernel
theorem dX12_fallen_17 : decode cX12_fallen 17 = .ok (.iastore, 1) := by decide +kernel
theorem dX12_fallen_18 : decode cX12_fallen 18 = .ok (.aload_n 0, 1) := by decide +kernel
theorem dX12_fallen_19 : decode cX12_fallen 19 = .ok (.getfield 207, 3) := by decide +kernel
theorem dX12_fallen_22 : decode cX12_fallen 22 = .ok (.ireturn, 1) := by decide +kernel
theorem dX12_readText_0 : decode cX12_readText 0 = .ok (.aload_n 0, 1) := by decide +kernel
theorem dX12_readText_1 : decode cX12_readText 1 = .ok (.iconst 0, 1) := by decide +kernel
theorem dX12_readText_2 : decode cX12_readText 2 = .ok (.bipush 11, 2) := by decide +kernel
theorem dX12_readText_4 : decode cX12_readText 4 = .ok (.invokevirtual 235, 3) := by decide +kernel
theorem dX12_readText_7 : decode cX12_readText 7 = .ok (.istore_n 1, 1) := by decide +kernel
theorem dX12_readText_8 : decode cX12_readText 8 = .ok (.aload_n 0, 1) := by decide +kernel
theorem dX12_readText_9 : decode cX12_readText 9 = .ok (.iconst 1, 1) := by decide +kernel
theorem dX12_readText_10 : decode cX12_readText 10 = .ok (.bipush 20, 2) := by decide +kernel
theorem dX12_readText_12 : decode cX12_readText 12 = .ok (.bipush 40, 2) := by decide +kernel
theorem dX12_readText_14 : decode cX12_readText 14 = .ok (.aload_n 0, 1) := by decide +kernel
theorem dX12_readText_15 : decode cX12_readText 15 = .ok (.getfield 32, 3) := by decide +kernel
theorem dX12_readText_18 : decode cX12_readText 18 = .ok (.bipush 6, 2) := by decide +kernel
theorem dX12_readText_20 : decode cX12_readText 20 = .ok (.iaload, 1) := by decide +kernel
theorem dX12_readText_21 : decode cX12_readText 21 = .ok (.isub, 1) := by decide +kernel
theorem dX12_readText_22 : decode cX12_readText 22 = .ok (.invokestatic 198, 3) := by decide +kernel
theorem dX12_readText_25 : decode cX12_readText 25 = .ok (.invokevirtual 235, 3) := by decide +kernel
theorem dX12_readText_28 : decode cX12_readText 28 = .ok (.istore_n 2, 1) := by decide +kernel
theorem dX12_readText_29 : decode cX12_readText 29 = .ok (.aload_n 0, 1) := by decide +kernel
theorem dX12_readText_30 : decode cX12_readText 30 = .ok (.ldc 238, 2) := by decide +kernel
theorem dX12_readText_32 : decode cX12_readText 32 = .ok (.sipush 200, 3) := by decide +kernel
theorem dX12_readText_35 : decode cX12_readText 35 = .ok (.bipush 40, 2) := by decide +kernel
theorem dX12_readText_37 : decode cX12_readText 37 = .ok (.invokevirtual 239, 3) := by decide +kernel
theorem dX12_readText_40 : decode cX12_readText 40 = .ok (.istore_n 3, 1) := by decide +kernel
theorem dX12_readText_41 : decode cX12_readText 41 = .ok (.aload_n 0, 1) := by decide +kernel
theorem dX12_readText_42 : decode cX12_readText 42 = .ok (.ldc 243, 2) := by decide +kernel
theorem dX12_readText_44 : decode cX12_readText 44 = .ok (.sipush 500, 3) := by decide +kernel
theorem dX12_readText_47 : decode cX12_readText 47 = .ok (.iconst 0, 1) := by decide +kernel
theorem dX12_readText_48 : decode cX12_readText 48 = .ok (.invokevirtual 239, 3) := by decide +kernel
theorem dX12_readText_51 : decode cX12_readText 51 = .ok (.istore 4, 2) := by decide +kernel
theorem dX12_readText_53 : decode cX12_readText 53 = .ok (.iconst 0, 1) := by decide +kernel
theorem dX12_readText_54 : decode cX12_readText 54 = .ok (.istore 5, 2) := by decide +kernel
theorem dX12_readText_56 : decode cX12_readText 56 = .ok (.iload 5, 2) := by decide +kernel
theorem dX12_readText_58 : decode cX12_readText 58 = .ok (.iload_n 2, 1) := by decide +kernel
theorem dX12_readText_59 : decode cX12_readText 59 = .ok (.if_icmp .ge 105, 3) := by decide +kernel
theorem dX12_readText_62 : decode cX12_readText 62 = .ok (.aload_n 0, 1) := by decide +kernel
theorem dX12_readText_63 : decode cX12_readText 63 = .ok (.getfield 207, 3) := by decide +kernel
theorem dX12_readText_66 : decode cX12_readText 66 = .ok (.ifCond .ne 98, 3) := by decide +kernel
theorem dX12_readText_69 : decode cX12_readText 69 = .ok (.bipush 6, 2) := by decide +kernel
theorem dX12_readText_71 : decode cX12_readText 71 = .ok (.aload_n 0, 1) := by decide +kernel
theorem dX12_readText_72 : decode cX12_readText 72 = .ok (.getfield 32, 3) := by decide +kernel
theorem dX12_readText_75 : decode cX12_readText 75 = .ok (.bipush 6, 2) := by decide +kernel
theorem dX12_readText_77 : decode cX12_readText 77 = .ok (.iaload, 1) := by decide +kernel
theorem dX12_readText_78 : decode cX12_readText 78 = .ok (.invokestatic 244, 3) := by decide +kernel
theorem dX12_readText_81 : decode cX12_readText 81 = .ok (.istore 6, 2) := by decide +kernel
theorem dX12_readText_83 : decode cX12_readText 83 = .ok (.aload_n 0, 1) := by decide +kernel
theorem dX12_readText_84 : decode cX12_readText 84 = .ok (.getfield 50, 3) := by decide +kernel
theorem dX12_readText_87 : decode cX12_readText 87 = .ok (.iload 6, 2) := by decide +kernel
theorem dX12_readText_89 : decode cX12_readText 89 = .ok (.iload_n 1, 1) := by decide +kernel
theorem dX12_readText_90 : decode cX12_readText 90 = .ok (.iastore, 1) := by decide +kernel
theorem dX12_readText_91 : decode cX12_readText 91 = .ok (.aload_n 0, 1) := by decide +kernel
theorem dX12_readText_92 : decode cX12_readText 92 = .ok (.getfield 53, 3) := by decide +kernel
theorem dX12_readText_95 : decode cX12_readText 95 = .ok (.iload 6, 2) := by decide +kernel
theorem dX12_readText_97 : decode cX12_readText 97 = .ok (.aload_n 0, 1) := by decide +kernel
theorem dX12_readText_98 : decode cX12_readText 98 = .ok (.getfield 36, 3) := by decide +kernel
theorem dX12_readText_101 : decode cX12_readText 101 = .ok (.bipush 6, 2) := by decide +kernel
theorem dX12_readText_103 : decode cX12_readText 103 = .ok (.iaload, 1) := by decide +kernel
theorem dX12_readText_104 : decode cX12_readText 104 = .ok (.iastore, 1) := by decide +kernel
theorem dX12_readText_105 : decode cX12_readText 105 = .ok (.aload_n 0, 1) := by decide +kernel
theorem dX12_readText_106 : decode cX12_readText 106 = .ok (.getfield 55, 3) := by decide +kernel
theorem dX12_readText_109 : decode cX12_readText 109 = .ok (.iload 6, 2) := by decide +kernel
theorem dX12_readText_111 : decode cX12_readText 111 = .ok (.iload 5, 2) := by decide +kernel
theorem dX12_readText_113 : decode cX12_readText 113 = .ok (.iastore, 1) := by decide +kernel
theorem dX12_readText_114 : decode cX12_readText 114 = .ok (.aload_n 0, 1) := by decide +kernel
theorem dX12_readText_115 : decode cX12_readText 115 = .ok (.getfield 58, 3) := by decide +kernel
theorem dX12_readText_118 : decode cX12_readText 118 = .ok (.iload 6, 2) := by decide +kernel
theorem dX12_readText_120 : decode cX12_readText 120 = .ok (.iload_n 3, 1) := by decide +kernel
theorem dX12_readText_121 : decode cX12_readText 121 = .ok (.iastore, 1) := by decide +kernel
theorem dX12_readText_122 : decode cX12_readText 122 = .ok (.aload_n 0, 1) := by decide +kernel
theorem dX12_readText_123 : decode cX12_readText 123 = .ok (.getfield 61, 3) := by decide +kernel
theorem dX12_readText_126 : decode cX12_readText 126 = .ok (.iload 6, 2) := by decide +kernel
theorem dX12_readText_128 : decode cX12_readText 128 = .ok (.iload 4, 2) := by decide +kernel
theorem dX12_readText_130 : decode cX12_readText 130 = .ok (.iastore, 1) := by decide +kernel
theorem dX12_readText_131 : decode cX12_readText 131 = .ok (.aload_n 0, 1) := by decide +kernel
theorem dX12_readText_132 : decode cX12_readText 132 = .ok (.getfield 64, 3) := by decide +kernel
theorem dX12_readText_135 : decode cX12_readText 135 = .ok (.iload 6, 2) := by decide +kernel
theorem dX12_readText_137 : decode cX12_readText 137 = .ok (.iconst 0, 1) := by decide +kernel
theorem dX12_readText_138 : decode cX12_readText 138 = .ok (.iastore, 1) := by decide +kernel
theorem dX12_readText_139 : decode cX12_readText 139 = .ok (.aload_n 0, 1) := by decide +kernel
theorem dX12_readText_140 : decode cX12_readText 140 = .ok (.getfield 66, 3) := by decide +kernel
theorem dX12_readText_143 : decode cX12_readText 143 = .ok (.iload 6, 2) := by decide +kernel
theorem dX12_readText_145 : decode cX12_readText 145 = .ok (.iconst (-1), 1) := by decide +kernel
theorem dX12_readText_146 : decode cX12_readText 146 = .ok (.iastore, 1) := by decide +kernel
theorem dX12_readText_147 : decode cX12_readText 147 = .ok (.aload_n 0, 1) := by decide +kernel
theorem dX12_readText_148 : decode cX12_readText 148 = .ok (.getfield 32, 3) := by decide +kernel
theorem dX12_readText_151 : decode cX12_readText 151 = .ok (.bipush 6, 2) := by decide +kernel
theorem dX12_readText_153 : decode cX12_readText 153 = .ok (.dup2, 1) := by decide +kernel
theorem dX12_readText_154 : decode cX12_readText 154 = .ok (.iaload, 1) := by decide +kernel
theorem dX12_readText_155 : decode cX12_readText 155 = .ok (.iconst 1, 1) := by decide +kernel
theorem dX12_readText_156 : decode cX12_readText 156 = .ok (.iadd, 1) := by decide +kernel
theorem dX12_readText_157 : decode cX12_readText 157 = .ok (.iastore, 1) := by decide +kernel
theorem dX12_readText_158 : decode cX12_readText 158 = .ok (.iinc 5 1, 3) := by decide +kernel
theorem dX12_readText_161 : decode cX12_readText 161 = .ok (.goto (-105), 3) := by decide +kernel
theorem dX12_readText_164 : decode cX12_readText 164 = .ok (.aload_n 0, 1) := by decide +kernel
theorem dX12_readText_165 : decode cX12_readText 165 = .ok (.getfield 36, 3) := by decide +kernel
theorem dX12_readText_168 : decode cX12_readText 168 = .ok (.bipush 6, 2) := by decide +kernel
theorem dX12_readText_170 : decode cX12_readText 170 = .ok (.dup2, 1) := by decide +kernel
theorem dX12_readText_171 : decode cX12_readText 171 = .ok (.iaload, 1) := by decide +kernel
theorem dX12_readText_172 : decode cX12_readText 172 = .ok (.iconst 1, 1) := by decide +kernel
theorem dX12_readText_173 : decode cX12_readText 173 = .ok (.iadd, 1) := by decide +kernel
theorem dX12_readText_174 : decode cX12_readText 174 = .ok (.iastore, 1) := by decide +kernel
theorem dX12_readText_175 : decode cX12_readText 175 = .ok (.return_, 1) := by decide +kernel
theorem dX12_readSpilt_0 : decode cX12_readSpilt 0 = .ok (.aload_n 0, 1) := by decide +kernel
theorem dX12_readSpilt_1 : decode cX12_readSpilt 1 = .ok (.getfield 207, 3) := by decide +kernel
theorem dX12_readSpilt_4 : decode cX12_readSpilt 4 = .ok (.ifCond .eq 4, 3) := by decide +kernel
theorem dX12_readSpilt_7 : decode cX12_readSpilt 7 = .ok (.return_, 1) := by decide +kernel
theorem dX12_readSpilt_8 : decode cX12_readSpilt 8 = .ok (.aload_n 0, 1) := by decide +kernel
theorem dX12_readSpilt_9 : decode cX12_readSpilt 9 = .ok (.getfield 185, 3) := by decide +kernel
theorem dX12_readSpilt_12 : decode cX12_readSpilt 12 = .ok (.iconst 2, 1) := by decide +kernel
theorem dX12_readSpilt_13 : decode cX12_readSpilt 13 = .ok (.if_icmp .eq 11, 3) := by decide +kernel
theorem dX12_readSpilt_16 : decode cX12_readSpilt 16 = .ok (.aload_n 0, 1) := by decide +kernel
theorem dX12_readSpilt_17 : decode cX12_readSpilt 17 = .ok (.iconst 1, 1) := by decide +kernel
theorem dX12_readSpilt_18 : decode cX12_readSpilt 18 = .ok (.invokevirtual 228, 3) := by decide +kernel
theorem dX12_readSpilt_21 : decode cX12_readSpilt 21 = .ok (.goto 68, 3) := by decide +kernel
theorem dX12_readSpilt_24 : decode cX12_readSpilt 24 = .ok (.aload_n 0, 1) := by decide +kernel
theorem dX12_readSpilt_25 : decode cX12_readSpilt 25 = .ok (.getfield 204, 3) := by decide +kernel
theorem dX12_readSpilt_28 : decode cX12_readSpilt 28 = .ok (.aload_n 0, 1) := by decide +kernel
theorem dX12_readSpilt_29 : decode cX12_readSpilt 29 = .ok (.getfield 182, 3) := by decide +kernel
theorem dX12_readSpilt_32 : decode cX12_readSpilt 32 = .ok (.isub, 1) := by decide +kernel
theorem dX12_readSpilt_33 : decode cX12_readSpilt 33 = .ok (.iconst 4, 1) := by decide +kernel
theorem dX12_readSpilt_34 : decode cX12_readSpilt 34 = .ok (.if_icmp .le 11, 3) := by decide +kernel
theorem dX12_readSpilt_37 : decode cX12_readSpilt 37 = .ok (.aload_n 0, 1) := by decide +kernel
theorem dX12_readSpilt_38 : decode cX12_readSpilt 38 = .ok (.iconst 2, 1) := by decide +kernel
theorem dX12_readSpilt_39 : decode cX12_readSpilt 39 = .ok (.invokevirtual 228, 3) := by decide +kernel
theorem dX12_readSpilt_42 : decode cX12_readSpilt 42 = .ok (.goto 47, 3) := by decide +kernel
theorem dX12_readSpilt_45 : decode cX12_readSpilt 45 = .ok (.aload_n 0, 1) := by decide +kernel
theorem dX12_readSpilt_46 : decode cX12_readSpilt 46 = .ok (.getfield 194, 3) := by decide +kernel
theorem dX12_readSpilt_49 : decode cX12_readSpilt 49 = .ok (.aload_n 0, 1) := by decide +kernel
theorem dX12_readSpilt_50 : decode cX12_readSpilt 50 = .ok (.getfield 32, 3) := by decide +kernel
theorem dX12_readSpilt_53 : decode cX12_readSpilt 53 = .ok (.bipush 6, 2) := by decide +kernel
theorem dX12_readSpilt_55 : decode cX12_readSpilt 55 = .ok (.iaload, 1) := by decide +kernel
theorem dX12_readSpilt_56 : decode cX12_readSpilt 56 = .ok (.if_icmp .lt 11, 3) := by decide +kernel
theorem dX12_readSpilt_59 : decode cX12_readSpilt 59 = .ok (.aload_n 0, 1) := by decide +kernel
theorem dX12_readSpilt_60 : decode cX12_readSpilt 60 = .ok (.iconst 3, 1) := by decide +kernel
theorem dX12_readSpilt_61 : decode cX12_readSpilt 61 = .ok (.invokevirtual 228, 3) := by decide +kernel
theorem dX12_readSpilt_64 : decode cX12_readSpilt 64 = .ok (.goto 25, 3) := by decide +kernel
theorem dX12_readSpilt_67 : decode cX12_readSpilt 67 = .ok (.aload_n 0, 1) := by decide +kernel
theorem dX12_readSpilt_68 : decode cX12_readSpilt 68 = .ok (.getfield 64, 3) := by decide +kernel
theorem dX12_readSpilt_71 : decode cX12_readSpilt 71 = .ok (.bipush 6, 2) := by decide +kernel
theorem dX12_readSpilt_73 : decode cX12_readSpilt 73 = .ok (.aload_n 0, 1) := by decide +kernel
theorem dX12_readSpilt_74 : decode cX12_readSpilt 74 = .ok (.getfield 194, 3) := by decide +kernel
theorem dX12_readSpilt_77 : decode cX12_readSpilt 77 = .ok (.invokestatic 244, 3) := by decide +kernel
theorem dX12_readSpilt_80 : decode cX12_readSpilt 80 = .ok (.iaload, 1) := by decide +kernel
theorem dX12_readSpilt_81 : decode cX12_readSpilt 81 = .ok (.ifCond .le 8, 3) := by decide +kernel
theorem dX12_readSpilt_84 : decode cX12_readSpilt 84 = .ok (.aload_n 0, 1) := by decide +kernel
theorem dX12_readSpilt_85 : decode cX12_readSpilt 85 = .ok (.iconst 5, 1) := by decide +kernel
theorem dX12_readSpilt_86 : decode cX12_readSpilt 86 = .ok (.invokevirtual 228, 3) := by decide +kernel
theorem dX12_readSpilt_89 : decode cX12_readSpilt 89 = .ok (.aload_n 0, 1) := by decide +kernel
theorem dX12_readSpilt_90 : decode cX12_readSpilt 90 = .ok (.getfield 194, 3) := by decide +kernel
theorem dX12_readSpilt_93 : decode cX12_readSpilt 93 = .ok (.istore_n 1, 1) := by decide +kernel
theorem dX12_readSpilt_94 : decode cX12_readSpilt 94 = .ok (.aload_n 0, 1) := by decide +kernel
theorem dX12_readSpilt_95 : decode cX12_readSpilt 95 = .ok (.getfield 207, 3) := by decide +kernel
theorem dX12_readSpilt_98 : decode cX12_readSpilt 98 = .ok (.ifCond .ne 7, 3) := by decide +kernel
theorem dX12_readSpilt_101 : decode cX12_readSpilt 101 = .ok (.aload_n 0, 1) := by decide +kernel
theorem dX12_readSpilt_102 : decode cX12_readSpilt 102 = .ok (.invokevirtual 225, 3) := by decide +kernel
theorem dX12_readSpilt_105 : decode cX12_readSpilt 105 = .ok (.aload_n 0, 1) := by decide +kernel
theorem dX12_readSpilt_106 : decode cX12_readSpilt 106 = .ok (.iconst 1, 1) := by decide +kernel
theorem dX12_readSpilt_107 : decode cX12_readSpilt 107 = .ok (.sipush 999, 3) := by decide +kernel
theorem dX12_readSpilt_110 : decode cX12_readSpilt 110 = .ok (.invokevirtual 235, 3) := by decide +kernel
theorem dX12_readSpilt_113 : decode cX12_readSpilt 113 = .ok (.istore_n 2, 1) := by decide +kernel
theorem dX12_readSpilt_114 : decode cX12_readSpilt 114 = .ok (.aload_n 0, 1) := by decide +kernel
theorem dX12_readSpilt_115 : decode cX12_readSpilt 115 = .ok (.getfield 207, 3) := by decide +kernel
theorem dX12_readSpilt_118 : decode cX12_readSpilt 118 = .ok (.ifCond .ne 15, 3) := by decide +kernel
theorem dX12_readSpilt_121 : decode cX12_readSpilt 121 = .ok (.aload_n 0, 1) := by decide +kernel
theorem dX12_readSpilt_122 : decode cX12_readSpilt 122 = .ok (.getfield 64, 3) := by decide +kernel
theorem dX12_readSpilt_125 : decode cX12_readSpilt 125 = .ok (.bipush 6, 2) := by decide +kernel
theorem dX12_readSpilt_127 : decode cX12_readSpilt 127 = .ok (.iload_n 1, 1) := by decide +kernel
theorem dX12_readSpilt_128 : decode cX12_readSpilt 128 = .ok (.invokestatic 244, 3) := by decide +kernel
theorem dX12_readSpilt_131 : decode cX12_readSpilt 131 = .ok (.iload_n 2, 1) := by decide +kernel
theorem dX12_readSpilt_132 : decode cX12_readSpilt 132 = .ok (.iastore, 1) := by decide +kernel
theorem dX12_readSpilt_133 : decode cX12_readSpilt 133 = .ok (.return_, 1) := by decide +kernel
theorem dX12_readWashed_0 : decode cX12_readWashed 0 = .ok (.aload_n 0, 1) := by decide +kernel
theorem dX12_readWashed_1 : decode cX12_readWashed 1 = .ok (.getfield 41, 3) := by decide +kernel
theorem dX12_readWashed_4 : decode cX12_readWashed 4 = .ok (.bipush 6, 2) := by decide +kernel
theorem dX12_readWashed_6 : decode cX12_readWashed 6 = .ok (.iaload, 1) := by decide +kernel
theorem dX12_readWashed_7 : decode cX12_readWashed 7 = .ok (.istore_n 1, 1) := by decide +kernel
theorem dX12_readWashed_8 : decode cX12_readWashed 8 = .ok (.aload_n 0, 1) := by decide +kernel
theorem dX12_readWashed_9 : decode cX12_readWashed 9 = .ok (.getfield 207, 3) := by decide +kernel
theorem dX12_readWashed_12 : decode cX12_readWashed 12 = .ok (.ifCond .ne 61, 3) := by decide +kernel
theorem dX12_readWashed_15 : decode cX12_readWashed 15 = .ok (.aload_n 0, 1) := by decide +kernel
theorem dX12_readWashed_16 : decode cX12_readWashed 16 = .ok (.getfield 185, 3) := by decide +kernel
theorem dX12_readWashed_19 : decode cX12_readWashed 19 = .ok (.iconst 2, 1) := by decide +kernel
theorem dX12_readWashed_20 : decode cX12_readWashed 20 = .ok (.if_icmp .ne 53, 3) := by decide +kernel
theorem dX12_readWashed_23 : decode cX12_readWashed 23 = .ok (.aload_n 0, 1) := by decide +kernel
theorem dX12_readWashed_24 : decode cX12_readWashed 24 = .ok (.getfield 204, 3) := by decide +kernel
theorem dX12_readWashed_27 : decode cX12_readWashed 27 = .ok (.aload_n 0, 1) := by decide +kernel
theorem dX12_readWashed_28 : decode cX12_readWashed 28 = .ok (.getfield 182, 3) := by decide +kernel
theorem dX12_readWashed_31 : decode cX12_readWashed 31 = .ok (.isub, 1) := by decide +kernel
theorem dX12_readWashed_32 : decode cX12_readWashed 32 = .ok (.iconst 4, 1) := by decide +kernel
theorem dX12_readWashed_33 : decode cX12_readWashed 33 = .ok (.if_icmp .gt 40, 3) := by decide +kernel
theorem dX12_readWashed_36 : decode cX12_readWashed 36 = .ok (.aload_n 0, 1) := by decide +kernel
theorem dX12_readWashed_37 : decode cX12_readWashed 37 = .ok (.getfield 194, 3) := by decide +kernel
theorem dX12_readWashed_40 : decode cX12_readWashed 40 = .ok (.sipush 500, 3) := by decide +kernel
theorem dX12_readWashed_43 : decode cX12_readWashed 43 = .ok (.if_icmp .gt 30, 3) := by decide +kernel
theorem dX12_readWashed_46 : decode cX12_readWashed 46 = .ok (.iload_n 1, 1) := by decide +kernel
theorem dX12_readWashed_47 : decode cX12_readWashed 47 = .ok (.ifCond .le 26, 3) := by decide +kernel
theorem dX12_readWashed_50 : decode cX12_readWashed 50 = .ok (.aload_n 0, 1) := by decide +kernel
theorem dX12_readWashed_51 : decode cX12_readWashed 51 = .ok (.getfield 194, 3) := by decide +kernel
theorem dX12_readWashed_54 : decode cX12_readWashed 54 = .ok (.aload_n 0, 1) := by decide +kernel
theorem dX12_readWashed_55 : decode cX12_readWashed 55 = .ok (.getfield 72, 3) := by decide +kernel
theorem dX12_readWashed_58 : decode cX12_readWashed 58 = .ok (.bipush 24, 2) := by decide +kernel
theorem dX12_readWashed_60 : decode cX12_readWashed 60 = .ok (.iload_n 1, 1) := by decide +kernel
theorem dX12_readWashed_61 : decode cX12_readWashed 61 = .ok (.iadd, 1) := by decide +kernel
theorem dX12_readWashed_62 : decode cX12_readWashed 62 = .ok (.iconst 1, 1) := by decide +kernel
theorem dX12_readWashed_63 : decode cX12_readWashed 63 = .ok (.isub, 1) := by decide +kernel
theorem dX12_readWashed_64 : decode cX12_readWashed 64 = .ok (.iaload, 1) := by decide +kernel
theorem dX12_readWashed_65 : decode cX12_readWashed 65 = .ok (.if_icmp .gt 8, 3) := by decide +kernel
theorem dX12_readWashed_68 : decode cX12_readWashed 68 = .ok (.aload_n 0, 1) := by decide +kernel
theorem dX12_readWashed_69 : decode cX12_readWashed 69 = .ok (.iconst 4, 1) := by decide +kernel
theorem dX12_readWashed_70 : decode cX12_readWashed 70 = .ok (.invokevirtual 228, 3) := by decide +kernel
theorem dX12_readWashed_73 : decode cX12_readWashed 73 = .ok (.aload_n 0, 1) := by decide +kernel
theorem dX12_readWashed_74 : decode cX12_readWashed 74 = .ok (.iconst 0, 1) := by decide +kernel
theorem dX12_readWashed_75 : decode cX12_readWashed 75 = .ok (.sipush 500, 3) := by decide +kernel
theorem dX12_readWashed_78 : decode cX12_readWashed 78 = .ok (.invokevirtual 235, 3) := by decide +kernel
theorem dX12_readWashed_81 : decode cX12_readWashed 81 = .ok (.istore_n 2, 1) := by decide +kernel
theorem dX12_readWashed_82 : decode cX12_readWashed 82 = .ok (.aload_n 0, 1) := by decide +kernel
theorem dX12_readWashed_83 : decode cX12_readWashed 83 = .ok (.iconst 1, 1) := by decide +kernel
theorem dX12_readWashed_84 : decode cX12_readWashed 84 = .ok (.bipush 99, 2) := by decide +kernel
theorem dX12_readWashed_86 : decode cX12_readWashed 86 = .ok (.invokevirtual 235, 3) := by decide +kernel
theorem dX12_readWashed_89 : decode cX12_readWashed 89 = .ok (.istore_n 3, 1) := by decide +kernel
theorem dX12_readWashed_90 : decode cX12_readWashed 90 = .ok (.aload_n 0, 1) := by decide +kernel
theorem dX12_readWashed_91 : decode cX12_readWashed 91 = .ok (.getfield 72, 3) := by decide +kernel
theorem dX12_readWashed_94 : decode cX12_readWashed 94 = .ok (.bipush 24, 2) := by decide +kernel
theorem dX12_readWashed_96 : decode cX12_readWashed 96 = .ok (.iload_n 1, 1) := by decide +kernel
theorem dX12_readWashed_97 : decode cX12_readWashed 97 = .ok (.iadd, 1) := by decide +kernel
theorem dX12_readWashed_98 : decode cX12_readWashed 98 = .ok (.iload_n 2, 1) := by decide +kernel
theorem dX12_readWashed_99 : decode cX12_readWashed 99 = .ok (.iastore, 1) := by decide +kernel
theorem dX12_readWashed_100 : decode cX12_readWashed 100 = .ok (.aload_n 0, 1) := by decide +kernel
theorem dX12_readWashed_101 : decode cX12_readWashed 101 = .ok (.getfield 75, 3) := by decide +kernel
theorem dX12_readWashed_104 : decode cX12_readWashed 104 = .ok (.bipush 24, 2) := by decide +kernel
theorem dX12_readWashed_106 : decode cX12_readWashed 106 = .ok (.iload_n 1, 1) := by decide +kernel
theorem dX12_readWashed_107 : decode cX12_readWashed 107 = .ok (.iadd, 1) := by decide +kernel
theorem dX12_readWashed_108 : decode cX12_readWashed 108 = .ok (.iload_n 3, 1) := by decide +kernel
theorem dX12_readWashed_109 : decode cX12_readWashed 109 = .ok (.iastore, 1) := by decide +kernel
theorem dX12_readWashed_110 : decode cX12_readWashed 110 = .ok (.aload_n 0, 1) := by decide +kernel
theorem dX12_readWashed_111 : decode cX12_readWashed 111 = .ok (.getfield 41, 3) := by decide +kernel
theorem dX12_readWashed_114 : decode cX12_readWashed 114 = .ok (.bipush 6, 2) := by decide +kernel
theorem dX12_readWashed_116 : decode cX12_readWashed 116 = .ok (.dup2, 1) := by decide +kernel
theorem dX12_readWashed_117 : decode cX12_readWashed 117 = .ok (.iaload, 1) := by decide +kernel
theorem dX12_readWashed_118 : decode cX12_readWashed 118 = .ok (.iconst 1, 1) := by decide +kernel
theorem dX12_readWashed_119 : decode cX12_readWashed 119 = .ok (.iadd, 1) := by decide +kernel
theorem dX12_readWashed_120 : decode cX12_readWashed 120 = .ok (.iastore, 1) := by decide +kernel
theorem dX12_readWashed_121 : decode cX12_readWashed 121 = .ok (.return_, 1) := by decide +kernel
theorem dX12_readLine_0 : decode cX12_readLine 0 = .ok (.aload_n 0, 1) := by decide +kernel
theorem dX12_readLine_1 : decode cX12_readLine 1 = .ok (.aload_n 0, 1) := by decide +kernel
theorem dX12_readLine_2 : decode cX12_readLine 2 = .ok (.getfield 17, 3) := by decide +kernel
theorem dX12_readLine_5 : decode cX12_readLine 5 = .ok (.invokevirtual 247, 3) := by decide +kernel
theorem dX12_readLine_8 : decode cX12_readLine 8 = .ok (.istore_n 1, 1) := by decide +kernel
theorem dX12_readLine_9 : decode cX12_readLine 9 = .ok (.iload_n 1, 1) := by decide +kernel
theorem dX12_readLine_10 : decode cX12_readLine 10 = .ok (.iconst (-1), 1) := by decide +kernel
theorem dX12_readLine_11 : decode cX12_readLine 11 = .ok (.if_icmp .ne 11, 3) := by decide +kernel
theorem dX12_readLine_14 : decode cX12_readLine 14 = .ok (.aload_n 0, 1) := by decide +kernel
theorem dX12_readLine_15 : decode cX12_readLine 15 = .ok (.iconst 1, 1) := by decide +kernel
theorem dX12_readLine_16 : decode cX12_readLine 16 = .ok (.invokevirtual 228, 3) := by decide +kernel
theorem dX12_readLine_19 : decode cX12_readLine 19 = .ok (.goto 24, 3) := by decide +kernel
theorem dX12_readLine_22 : decode cX12_readLine 22 = .ok (.iload_n 1, 1) := by decide +kernel
theorem dX12_readLine_23 : decode cX12_readLine 23 = .ok (.iconst 3, 1) := by decide +kernel
theorem dX12_readLine_24 : decode cX12_readLine 24 = .ok (.if_icmp .ne 19, 3) := by decide +kernel
theorem dX12_readLine_27 : decode cX12_readLine 27 = .ok (.aload_n 0, 1) := by decide +kernel
theorem dX12_readLine_28 : decode cX12_readLine 28 = .ok (.getfield 41, 3) := by decide +kernel
theorem dX12_readLine_31 : decode cX12_readLine 31 = .ok (.bipush 6, 2) := by decide +kernel
theorem dX12_readLine_33 : decode cX12_readLine 33 = .ok (.iaload, 1) := by decide +kernel
theorem dX12_readLine_34 : decode cX12_readLine 34 = .ok (.iconst 4, 1) := by decide +kernel
theorem dX12_readLine_35 : decode cX12_readLine 35 = .ok (.if_icmp .ne 8, 3) := by decide +kernel
theorem dX12_readLine_38 : decode cX12_readLine 38 = .ok (.aload_n 0, 1) := by decide +kernel
theorem dX12_readLine_39 : decode cX12_readLine 39 = .ok (.iconst 2, 1) := by decide +kernel
theorem dX12_readLine_40 : decode cX12_readLine 40 = .ok (.invokevirtual 228, 3) := by decide +kernel
theorem dX12_readLine_43 : decode cX12_readLine 43 = .ok (.aload_n 0, 1) := by decide +kernel
theorem dX12_readLine_44 : decode cX12_readLine 44 = .ok (.getfield 207, 3) := by decide +kernel
theorem dX12_readLine_47 : decode cX12_readLine 47 = .ok (.ifCond .eq 4, 3) := by decide +kernel
theorem dX12_readLine_50 : decode cX12_readLine 50 = .ok (.return_, 1) := by decide +kernel
theorem dX12_readLine_51 : decode cX12_readLine 51 = .ok (.aload_n 0, 1) := by decide +kernel
theorem dX12_readLine_52 : decode cX12_readLine 52 = .ok (.invokevirtual 225, 3) := by decide +kernel
theorem dX12_readLine_55 : decode cX12_readLine 55 = .ok (.iload_n 1, 1) := by decide +kernel
theorem dX12_readLine_56 : decode cX12_readLine 56 = .ok (.ifCond .ne 10, 3) := by decide +kernel
theorem dX12_readLine_59 : decode cX12_readLine 59 = .ok (.aload_n 0, 1) := by decide +kernel
theorem dX12_readLine_60 : decode cX12_readLine 60 = .ok (.invokevirtual 251, 3) := by decide +kernel
theorem dX12_readLine_63 : decode cX12_readLine 63 = .ok (.goto 41, 3) := by decide +kernel
theorem dX12_readLine_66 : decode cX12_readLine 66 = .ok (.iload_n 1, 1) := by decide +kernel
theorem dX12_readLine_67 : decode cX12_readLine 67 = .ok (.iconst 1, 1) := by decide +kernel
theorem dX12_readLine_68 : decode cX12_readLine 68 = .ok (.if_icmp .ne 20, 3) := by decide +kernel
theorem dX12_readLine_71 : decode cX12_readLine 71 = .ok (.aload_n 0, 1) := by decide +kernel
theorem dX12_readLine_72 : decode cX12_readLine 72 = .ok (.getfield 39, 3) := by decide +kernel
theorem dX12_readLine_75 : decode cX12_readLine 75 = .ok (.bipush 6, 2) := by decide +kernel
theorem dX12_readLine_77 : decode cX12_readLine 77 = .ok (.aload_n 0, 1) := by decide +kernel
theorem dX12_readLine_78 : decode cX12_readLine 78 = .ok (.iconst 0, 1) := by decide +kernel
theorem dX12_readLine_79 : decode cX12_readLine 79 = .ok (.bipush 100, 2) := by decide +kernel
theorem dX12_readLine_81 : decode cX12_readLine 81 = .ok (.invokevirtual 235, 3) := by decide +kernel
theorem dX12_readLine_84 : decode cX12_readLine 84 = .ok (.iastore, 1) := by decide +kernel
theorem dX12_readLine_85 : decode cX12_readLine 85 = .ok (.goto 19, 3) := by decide +kernel
theorem dX12_readLine_88 : decode cX12_readLine 88 = .ok (.iload_n 1, 1) := by decide +kernel
theorem dX12_readLine_89 : decode cX12_readLine 89 = .ok (.iconst 2, 1) := by decide +kernel
theorem dX12_readLine_90 : decode cX12_readLine 90 = .ok (.if_icmp .ne 10, 3) := by decide +kernel
theorem dX12_readLine_93 : decode cX12_readLine 93 = .ok (.aload_n 0, 1) := by decide +kernel
theorem dX12_readLine_94 : decode cX12_readLine 94 = .ok (.invokevirtual 254, 3) := by decide +kernel
theorem dX12_readLine_97 : decode cX12_readLine 97 = .ok (.goto 7, 3) := by decide +kernel
theorem dX12_readLine_100 : decode cX12_readLine 100 = .ok (.aload_n 0, 1) := by decide +kernel
theorem dX12_readLine_101 : decode cX12_readLine 101 = .ok (.invokevirtual 257, 3) := by decide +kernel
theorem dX12_readLine_104 : decode cX12_readLine 104 = .ok (.aload_n 0, 1) := by decide +kernel
theorem dX12_readLine_105 : decode cX12_readLine 105 = .ok (.invokevirtual 260, 3) := by decide +kernel
theorem dX12_readLine_108 : decode cX12_readLine 108 = .ok (.return_, 1) := by decide +kernel
theorem dX12_copyBook_0 : decode cX12_copyBook 0 = .ok (.aload_n 0, 1) := by decide +kernel
theorem dX12_copyBook_1 : decode cX12_copyBook 1 = .ok (.getfield 32, 3) := by decide +kernel
theorem dX12_copyBook_4 : decode cX12_copyBook 4 = .ok (.iload_n 2, 1) := by decide +kernel
theorem dX12_copyBook_5 : decode cX12_copyBook 5 = .ok (.aload_n 0, 1) := by decide +kernel
theorem dX12_copyBook_6 : decode cX12_copyBook 6 = .ok (.getfield 32, 3) := by decide +kernel
theorem dX12_copyBook_9 : decode cX12_copyBook 9 = .ok (.iload_n 1, 1) := by decide +kernel
theorem dX12_copyBook_10 : decode cX12_copyBook 10 = .ok (.iaload, 1) := by decide +kernel
theorem dX12_copyBook_11 : decode cX12_copyBook 11 = .ok (.iastore, 1) := by decide +kernel
theorem dX12_copyBook_12 : decode cX12_copyBook 12 = .ok (.aload_n 0, 1) := by decide +kernel
theorem dX12_copyBook_13 : decode cX12_copyBook 13 = .ok (.getfield 36, 3) := by decide +kernel
theorem dX12_copyBook_16 : decode cX12_copyBook 16 = .ok (.iload_n 2, 1) := by decide +kernel
theorem dX12_copyBook_17 : decode cX12_copyBook 17 = .ok (.aload_n 0, 1) := by decide +kernel
theorem dX12_copyBook_18 : decode cX12_copyBook 18 = .ok (.getfield 36, 3) := by decide +kernel
theorem dX12_copyBook_21 : decode cX12_copyBook 21 = .ok (.iload_n 1, 1) := by decide +kernel
theorem dX12_copyBook_22 : decode cX12_copyBook 22 = .ok (.iaload, 1) := by decide +kernel
theorem dX12_copyBook_23 : decode cX12_copyBook 23 = .ok (.iastore, 1) := by decide +kernel
theorem dX12_copyBook_24 : decode cX12_copyBook 24 = .ok (.aload_n 0, 1) := by decide +kernel
theorem dX12_copyBook_25 : decode cX12_copyBook 25 = .ok (.getfield 39, 3) := by decide +kernel
theorem dX12_copyBook_28 : decode cX12_copyBook 28 = .ok (.iload_n 2, 1) := by decide +kernel
theorem dX12_copyBook_29 : decode cX12_copyBook 29 = .ok (.aload_n 0, 1) := by decide +kernel
theorem dX12_copyBook_30 : decode cX12_copyBook 30 = .ok (.getfield 39, 3) := by decide +kernel
theorem dX12_copyBook_33 : decode cX12_copyBook 33 = .ok (.iload_n 1, 1) := by decide +kernel
theorem dX12_copyBook_34 : decode cX12_copyBook 34 = .ok (.iaload, 1) := by decide +kernel
theorem dX12_copyBook_35 : decode cX12_copyBook 35 = .ok (.iastore, 1) := by decide +kernel
theorem dX12_copyBook_36 : decode cX12_copyBook 36 = .ok (.aload_n 0, 1) := by decide +kernel
theorem dX12_copyBook_37 : decode cX12_copyBook 37 = .ok (.getfield 41, 3) := by decide +kernel
theorem dX12_copyBook_40 : decode cX12_copyBook 40 = .ok (.iload_n 2, 1) := by decide +kernel
theorem dX12_copyBook_41 : decode cX12_copyBook 41 = .ok (.aload_n 0, 1) := by decide +kernel
theorem dX12_copyBook_42 : decode cX12_copyBook 42 = .ok (.getfield 41, 3) := by decide +kernel
theorem dX12_copyBook_45 : decode cX12_copyBook 45 = .ok (.iload_n 1, 1) := by decide +kernel
theorem dX12_copyBook_46 : decode cX12_copyBook 46 = .ok (.iaload, 1) := by decide +kernel
theorem dX12_copyBook_47 : decode cX12_copyBook 47 = .ok (.iastore, 1) := by decide +kernel
theorem dX12_copyBook_48 : decode cX12_copyBook 48 = .ok (.aload_n 0, 1) := by decide +kernel
theorem dX12_copyBook_49 : decode cX12_copyBook 49 = .ok (.getfield 44, 3) := by decide +kernel
theorem dX12_copyBook_52 : decode cX12_copyBook 52 = .ok (.iload_n 2, 1) := by decide +kernel
theorem dX12_copyBook_53 : decode cX12_copyBook 53 = .ok (.aload_n 0, 1) := by decide +kernel
theorem dX12_copyBook_54 : decode cX12_copyBook 54 = .ok (.getfield 44, 3) := by decide +kernel
theorem dX12_copyBook_57 : decode cX12_copyBook 57 = .ok (.iload_n 1, 1) := by decide +kernel
theorem dX12_copyBook_58 : decode cX12_copyBook 58 = .ok (.iaload, 1) := by decide +kernel
theorem dX12_copyBook_59 : decode cX12_copyBook 59 = .ok (.iastore, 1) := by decide +kernel
theorem dX12_copyBook_60 : decode cX12_copyBook 60 = .ok (.iconst 0, 1) := by decide +kernel
theorem dX12_copyBook_61 : decode cX12_copyBook 61 = .ok (.istore_n 3, 1) := by decide +kernel
theorem dX12_copyBook_62 : decode cX12_copyBook 62 = .ok (.iload_n 3, 1) := by decide +kernel
theorem dX12_copyBook_63 : decode cX12_copyBook 63 = .ok (.bipush 40, 2) := by decide +kernel
theorem dX12_copyBook_65 : decode cX12_copyBook 65 = .ok (.if_icmp .ge 140, 3) := by decide +kernel
theorem dX12_copyBook_68 : decode cX12_copyBook 68 = .ok (.aload_n 0, 1) := by decide +kernel
theorem dX12_copyBook_69 : decode cX12_copyBook 69 = .ok (.getfield 50, 3) := by decide +kernel
theorem dX12_copyBook_72 : decode cX12_copyBook 72 = .ok (.iload_n 2, 1) := by decide +kernel
theorem dX12_copyBook_73 : decode cX12_copyBook 73 = .ok (.iload_n 3, 1) := by decide +kernel
theorem dX12_copyBook_74 : decode cX12_copyBook 74 = .ok (.invokestatic 244, 3) := by decide +kernel
theorem dX12_copyBook_77 : decode cX12_copyBook 77 = .ok (.aload_n 0, 1) := by decide +kernel
theorem dX12_copyBook_78 : decode cX12_copyBook 78 = .ok (.getfield 50, 3) := by decide +kernel
theorem dX12_copyBook_81 : decode cX12_copyBook 81 = .ok (.iload_n 1, 1) := by decide +kernel
theorem dX12_copyBook_82 : decode cX12_copyBook 82 = .ok (.iload_n 3, 1) := by decide +kernel
theorem dX12_copyBook_83 : decode cX12_copyBook 83 = .ok (.invokestatic 244, 3) := by decide +kernel
theorem dX12_copyBook_86 : decode cX12_copyBook 86 = .ok (.iaload, 1) := by decide +kernel
theorem dX12_copyBook_87 : decode cX12_copyBook 87 = .ok (.iastore, 1) := by decide +kernel
theorem dX12_copyBook_88 : decode cX12_copyBook 88 = .ok (.aload_n 0, 1) := by decide +kernel
theorem dX12_copyBook_89 : decode cX12_copyBook 89 = .ok (.getfield 53, 3) := by decide +kernel
theorem dX12_copyBook_92 : decode cX12_copyBook 92 = .ok (.iload_n 2, 1) := by decide +kernel
theorem dX12_copyBook_93 : decode cX12_copyBook 93 = .ok (.iload_n 3, 1) := by decide +kernel
theorem dX12_copyBook_94 : decode cX12_copyBook 94 = .ok (.invokestatic 244, 3) := by decide +kernel
theorem dX12_copyBook_97 : decode cX12_copyBook 97 = .ok (.aload_n 0, 1) := by decide +kernel
theorem dX12_copyBook_98 : decode cX12_copyBook 98 = .ok (.getfield 53, 3) := by decide +kernel
theorem dX12_copyBook_101 : decode cX12_copyBook 101 = .ok (.iload_n 1, 1) := by decide +kernel
theorem dX12_copyBook_102 : decode cX12_copyBook 102 = .ok (.iload_n 3, 1) := by decide +kernel
theorem dX12_copyBook_103 : decode cX12_copyBook 103 = .ok (.invokestatic 244, 3) := by decide +kernel
theorem dX12_copyBook_106 : decode cX12_copyBook 106 = .ok (.iaload, 1) := by decide +kernel
theorem dX12_copyBook_107 : decode cX12_copyBook 107 = .ok (.iastore, 1) := by decide +kernel
theorem dX12_copyBook_108 : decode cX12_copyBook 108 = .ok (.aload_n 0, 1) := by decide +kernel
theorem dX12_copyBook_109 : decode cX12_copyBook 109 = .ok (.getfield 55, 3) := by decide +kernel
theorem dX12_copyBook_112 : decode cX12_copyBook 112 = .ok (.iload_n 2, 1) := by decide +kernel
theorem dX12_copyBook_113 : decode cX12_copyBook 113 = .ok (.iload_n 3, 1) := by decide +kernel
theorem dX12_copyBook_114 : decode cX12_copyBook 114 = .ok (.invokestatic 244, 3) := by decide +kernel
theorem dX12_copyBook_117 : decode cX12_copyBook 117 = .ok (.aload_n 0, 1) := by decide +kernel
theorem dX12_copyBook_118 : decode cX12_copyBook 118 = .ok (.getfield 55, 3) := by decide +kernel
theorem dX12_copyBook_121 : decode cX12_copyBook 121 = .ok (.iload_n 1, 1) := by decide +kernel
theorem dX12_copyBook_122 : decode cX12_copyBook 122 = .ok (.iload_n 3, 1) := by decide +kernel
theorem dX12_copyBook_123 : decode cX12_copyBook 123 = .ok (.invokestatic 244, 3) := by decide +kernel
theorem dX12_copyBook_126 : decode cX12_copyBook 126 = .ok (.iaload, 1) := by decide +kernel
theorem dX12_copyBook_127 : decode cX12_copyBook 127 = .ok (.iastore, 1) := by decide +kernel
theorem dX12_copyBook_128 : decode cX12_copyBook 128 = .ok (.aload_n 0, 1) := by decide +kernel
theorem dX12_copyBook_129 : decode cX12_copyBook 129 = .ok (.getfield 58, 3) := by decide +kernel
theorem dX12_copyBook_132 : decode cX12_copyBook 132 = .ok (.iload_n 2, 1) := by decide +kernel
theorem dX12_copyBook_133 : decode cX12_copyBook 133 = .ok (.iload_n 3, 1) := by decide +kernel
theorem dX12_copyBook_134 : decode cX12_copyBook 134 = .ok (.invokestatic 244, 3) := by decide +kernel
theorem dX12_copyBook_137 : decode cX12_copyBook 137 = .ok (.aload_n 0, 1) := by decide +kernel
theorem dX12_copyBook_138 : decode cX12_copyBook 138 = .ok (.getfield 58, 3) := by decide +kernel
theorem dX12_copyBook_141 : decode cX12_copyBook 141 = .ok (.iload_n 1, 1) := by decide +kernel
theorem dX12_copyBook_142 : decode cX12_copyBook 142 = .ok (.iload_n 3, 1) := by decide +kernel
theorem dX12_copyBook_143 : decode cX12_copyBook 143 = .ok (.invokestatic 244, 3) := by decide +kernel
theorem dX12_copyBook_146 : decode cX12_copyBook 146 = .ok (.iaload, 1) := by decide +kernel
theorem dX12_copyBook_147 : decode cX12_copyBook 147 = .ok (.iastore, 1) := by decide +kernel
theorem dX12_copyBook_148 : decode cX12_copyBook 148 = .ok (.aload_n 0, 1) := by decide +kernel
theorem dX12_copyBook_149 : decode cX12_copyBook 149 = .ok (.getfield 61, 3) := by decide +kernel
theorem dX12_copyBook_152 : decode cX12_copyBook 152 = .ok (.iload_n 2, 1) := by decide +kernel
theorem dX12_copyBook_153 : decode cX12_copyBook 153 = .ok (.iload_n 3, 1) := by decide +kernel
theorem dX12_copyBook_154 : decode cX12_copyBook 154 = .ok (.invokestatic 244, 3) := by decide +kernel
theorem dX12_copyBook_157 : decode cX12_copyBook 157 = .ok (.aload_n 0, 1) := by decide +kernel
theorem dX12_copyBook_158 : decode cX12_copyBook 158 = .ok (.getfield 61, 3) := by decide +kernel
theorem dX12_copyBook_161 : decode cX12_copyBook 161 = .ok (.iload_n 1, 1) := by decide +kernel
theorem dX12_copyBook_162 : decode cX12_copyBook 162 = .ok (.iload_n 3, 1) := by decide +kernel
theorem dX12_copyBook_163 : decode cX12_copyBook 163 = .ok (.invokestatic 244, 3) := by decide +kernel
theorem dX12_copyBook_166 : decode cX12_copyBook 166 = .ok (.iaload, 1) := by decide +kernel
theorem dX12_copyBook_167 : decode cX12_copyBook 167 = .ok (.iastore, 1) := by decide +kernel
theorem dX12_copyBook_168 : decode cX12_copyBook 168 = .ok (.aload_n 0, 1) := by decide +kernel
theorem dX12_copyBook_169 : decode cX12_copyBook 169 = .ok (.getfield 64, 3) := by decide +kernel
theorem dX12_copyBook_172 : decode cX12_copyBook 172 = .ok (.iload_n 2, 1) := by decide +kernel
theorem dX12_copyBook_173 : decode cX12_copyBook 173 = .ok (.iload_n 3, 1) := by decide +kernel
theorem dX12_copyBook_174 : decode cX12_copyBook 174 = .ok (.invokestatic 244, 3) := by decide +kernel
theorem dX12_copyBook_177 : decode cX12_copyBook 177 = .ok (.aload_n 0, 1) := by decide +kernel
theorem dX12_copyBook_178 : decode cX12_copyBook 178 = .ok (.getfield 64, 3) := by decide +kernel
theorem dX12_copyBook_181 : decode cX12_copyBook 181 = .ok (.iload_n 1, 1) := by decide +kernel
theorem dX12_copyBook_182 : decode cX12_copyBook 182 = .ok (.iload_n 3, 1) := by decide +kernel
theorem dX12_copyBook_183 : decode cX12_copyBook 183 = .ok (.invokestatic 244, 3) := by decide +kernel
theorem dX12_copyBook_186 : decode cX12_copyBook 186 = .ok (.iaload, 1) := by decide +kernel
theorem dX12_copyBook_187 : decode cX12_copyBook 187 = .ok (.iastore, 1) := by decide +kernel
theorem dX12_copyBook_188 : decode cX12_copyBook 188 = .ok (.aload_n 0, 1) := by decide +kernel
theorem dX12_copyBook_189 : decode cX12_copyBook 189 = .ok (.getfield 66, 3) := by decide +kernel
theorem dX12_copyBook_192 : decode cX12_copyBook 192 = .ok (.iload_n 2, 1) := by decide +kernel
theorem dX12_copyBook_193 : decode cX12_copyBook 193 = .ok (.iload_n 3, 1) := by decide +kernel
theorem dX12_copyBook_194 : decode cX12_copyBook 194 = .ok (.invokestatic 244, 3) := by decide +kernel
theorem dX12_copyBook_197 : decode cX12_copyBook 197 = .ok (.iconst (-1), 1) := by decide +kernel
theorem dX12_copyBook_198 : decode cX12_copyBook 198 = .ok (.iastore, 1) := by decide +kernel
theorem dX12_copyBook_199 : decode cX12_copyBook 199 = .ok (.iinc 3 1, 3) := by decide +kernel
theorem dX12_copyBook_202 : decode cX12_copyBook 202 = .ok (.goto (-140), 3) := by decide +kernel
theorem dX12_copyBook_205 : decode cX12_copyBook 205 = .ok (.iconst 0, 1) := by decide +kernel
theorem dX12_copyBook_206 : decode cX12_copyBook 206 = .ok (.istore_n 3, 1) := by decide +kernel
theorem dX12_copyBook_207 : decode cX12_copyBook 207 = .ok (.iload_n 3, 1) := by decide +kernel
theorem dX12_copyBook_208 : decode cX12_copyBook 208 = .ok (.iconst 4, 1) := by decide +kernel
theorem dX12_copyBook_209 : decode cX12_copyBook 209 = .ok (.if_icmp .ge 49, 3) := by decide +kernel
theorem dX12_copyBook_212 : decode cX12_copyBook 212 = .ok (.aload_n 0, 1) := by decide +kernel
theorem dX12_copyBook_213 : decode cX12_copyBook 213 = .ok (.getfield 72, 3) := by decide +kernel
theorem dX12_copyBook_216 : decode cX12_copyBook 216 = .ok (.iconst 4, 1) := by decide +kernel
theorem dX12_copyBook_217 : decode cX12_copyBook 217 = .ok (.iload_n 2, 1) := by decide +kernel
theorem dX12_copyBook_218 : decode cX12_copyBook 218 = .ok (.imul, 1) := by decide +kernel
theorem dX12_copyBook_219 : decode cX12_copyBook 219 = .ok (.iload_n 3, 1) := by decide +kernel
theorem dX12_copyBook_220 : decode cX12_copyBook 220 = .ok (.iadd, 1) := by decide +kernel
theorem dX12_copyBook_221 : decode cX12_copyBook 221 = .ok (.aload_n 0, 1) := by decide +kernel
theorem dX12_copyBook_222 : decode cX12_copyBook 222 = .ok (.getfield 72, 3) := by decide +kernel
theorem dX12_copyBook_225 : decode cX12_copyBook 225 = .ok (.iconst 4, 1) := by decide +kernel
theorem dX12_copyBook_226 : decode cX12_copyBook 226 = .ok (.iload_n 1, 1) := by decide +kernel
theorem dX12_copyBook_227 : decode cX12_copyBook 227 = .ok (.imul, 1) := by decide +kernel
theorem dX12_copyBook_228 : decode cX12_copyBook 228 = .ok (.iload_n 3, 1) := by decide +kernel
theorem dX12_copyBook_229 : decode cX12_copyBook 229 = .ok (.iadd, 1) := by decide +kernel
theorem dX12_copyBook_230 : decode cX12_copyBook 230 = .ok (.iaload, 1) := by decide +kernel
theorem dX12_copyBook_231 : decode cX12_copyBook 231 = .ok (.iastore, 1) := by decide +kernel
theorem dX12_copyBook_232 : decode cX12_copyBook 232 = .ok (.aload_n 0, 1) := by decide +kernel
theorem dX12_copyBook_233 : decode cX12_copyBook 233 = .ok (.getfield 75, 3) := by decide +kernel
theorem dX12_copyBook_236 : decode cX12_copyBook 236 = .ok (.iconst 4, 1) := by decide +kernel
theorem dX12_copyBook_237 : decode cX12_copyBook 237 = .ok (.iload_n 2, 1) := by decide +kernel
theorem dX12_copyBook_238 : decode cX12_copyBook 238 = .ok (.imul, 1) := by decide +kernel
theorem dX12_copyBook_239 : decode cX12_copyBook 239 = .ok (.iload_n 3, 1) := by decide +kernel
theorem dX12_copyBook_240 : decode cX12_copyBook 240 = .ok (.iadd, 1) := by decide +kernel
theorem dX12_copyBook_241 : decode cX12_copyBook 241 = .ok (.aload_n 0, 1) := by decide +kernel
theorem dX12_copyBook_242 : decode cX12_copyBook 242 = .ok (.getfield 75, 3) := by decide +kernel
theorem dX12_copyBook_245 : decode cX12_copyBook 245 = .ok (.iconst 4, 1) := by decide +kernel
theorem dX12_copyBook_246 : decode cX12_copyBook 246 = .ok (.iload_n 1, 1) := by decide +kernel
theorem dX12_copyBook_247 : decode cX12_copyBook 247 = .ok (.imul, 1) := by decide +kernel
theorem dX12_copyBook_248 : decode cX12_copyBook 248 = .ok (.iload_n 3, 1) := by decide +kernel
theorem dX12_copyBook_249 : decode cX12_copyBook 249 = .ok (.iadd, 1) := by decide +kernel
theorem dX12_copyBook_250 : decode cX12_copyBook 250 = .ok (.iaload, 1) := by decide +kernel
theorem dX12_copyBook_251 : decode cX12_copyBook 251 = .ok (.iastore, 1) := by decide +kernel
theorem dX12_copyBook_252 : decode cX12_copyBook 252 = .ok (.iinc 3 1, 3) := by decide +kernel
theorem dX12_copyBook_255 : decode cX12_copyBook 255 = .ok (.goto (-48), 3) := by decide +kernel
theorem dX12_copyBook_258 : decode cX12_copyBook 258 = .ok (.iconst 0, 1) := by decide +kernel
theorem dX12_copyBook_259 : decode cX12_copyBook 259 = .ok (.istore_n 3, 1) := by decide +kernel
theorem dX12_copyBook_260 : decode cX12_copyBook 260 = .ok (.iload_n 3, 1) := by decide +kernel
theorem dX12_copyBook_261 : decode cX12_copyBook 261 = .ok (.bipush 8, 2) := by decide +kernel
theorem dX12_copyBook_263 : decode cX12_copyBook 263 = .ok (.if_icmp .ge 75, 3) := by decide +kernel
theorem dX12_copyBook_266 : decode cX12_copyBook 266 = .ok (.aload_n 0, 1) := by decide +kernel
theorem dX12_copyBook_267 : decode cX12_copyBook 267 = .ok (.getfield 78, 3) := by decide +kernel
theorem dX12_copyBook_270 : decode cX12_copyBook 270 = .ok (.bipush 8, 2) := by decide +kernel
theorem dX12_copyBook_272 : decode cX12_copyBook 272 = .ok (.iload_n 2, 1) := by decide +kernel
theorem dX12_copyBook_273 : decode cX12_copyBook 273 = .ok (.imul, 1) := by decide +kernel
theorem dX12_copyBook_274 : decode cX12_copyBook 274 = .ok (.iload_n 3, 1) := by decide +kernel
theorem dX12_copyBook_275 : decode cX12_copyBook 275 = .ok (.iadd, 1) := by decide +kernel
theorem dX12_copyBook_276 : decode cX12_copyBook 276 = .ok (.aload_n 0, 1) := by decide +kernel
theorem dX12_copyBook_277 : decode cX12_copyBook 277 = .ok (.getfield 78, 3) := by decide +kernel
theorem dX12_copyBook_280 : decode cX12_copyBook 280 = .ok (.bipush 8, 2) := by decide +kernel
theorem dX12_copyBook_282 : decode cX12_copyBook 282 = .ok (.iload_n 1, 1) := by decide +kernel
theorem dX12_copyBook_283 : decode cX12_copyBook 283 = .ok (.imul, 1) := by decide +kernel
theorem dX12_copyBook_284 : decode cX12_copyBook 284 = .ok (.iload_n 3, 1) := by decide +kernel
theorem dX12_copyBook_285 : decode cX12_copyBook 285 = .ok (.iadd, 1) := by decide +kernel
theorem dX12_copyBook_286 : decode cX12_copyBook 286 = .ok (.iaload, 1) := by decide +kernel
theorem dX12_copyBook_287 : decode cX12_copyBook 287 = .ok (.iastore, 1) := by decide +kernel
theorem dX12_copyBook_288 : decode cX12_copyBook 288 = .ok (.aload_n 0, 1) := by decide +kernel
theorem dX12_copyBook_289 : decode cX12_copyBook 289 = .ok (.getfield 81, 3) := by decide +kernel
theorem dX12_copyBook_292 : decode cX12_copyBook 292 = .ok (.bipush 8, 2) := by decide +kernel
theorem dX12_copyBook_294 : decode cX12_copyBook 294 = .ok (.iload_n 2, 1) := by decide +kernel
theorem dX12_copyBook_295 : decode cX12_copyBook 295 = .ok (.imul, 1) := by decide +kernel
theorem dX12_copyBook_296 : decode cX12_copyBook 296 = .ok (.iload_n 3, 1) := by decide +kernel
theorem dX12_copyBook_297 : decode cX12_copyBook 297 = .ok (.iadd, 1) := by decide +kernel
theorem dX12_copyBook_298 : decode cX12_copyBook 298 = .ok (.aload_n 0, 1) := by decide +kernel
theorem dX12_copyBook_299 : decode cX12_copyBook 299 = .ok (.getfield 81, 3) := by decide +kernel
theorem dX12_copyBook_302 : decode cX12_copyBook 302 = .ok (.bipush 8, 2) := by decide +kernel
theorem dX12_copyBook_304 : decode cX12_copyBook 304 = .ok (.iload_n 1, 1) := by decide +kernel
theorem dX12_copyBook_305 : decode cX12_copyBook 305 = .ok (.imul, 1) := by decide +kernel
theorem dX12_copyBook_306 : decode cX12_copyBook 306 = .ok (.iload_n 3, 1) := by decide +kernel
theorem dX12_copyBook_307 : decode cX12_copyBook 307 = .ok (.iadd, 1) := by decide +kernel
theorem dX12_copyBook_308 : decode cX12_copyBook 308 = .ok (.iaload, 1) := by decide +kernel
theorem dX12_copyBook_309 : decode cX12_copyBook 309 = .ok (.iastore, 1) := by decide +kernel
theorem dX12_copyBook_310 : decode cX12_copyBook 310 = .ok (.aload_n 0, 1) := by decide +kernel
theorem dX12_copyBook_311 : decode cX12_copyBook 311 = .ok (.getfield 84, 3) := by decide +kernel
theorem dX12_copyBook_314 : decode cX12_copyBook 314 = .ok (.bipush 8, 2) := by decide +kernel
theorem dX12_copyBook_316 : decode cX12_copyBook 316 = .ok (.iload_n 2, 1) := by decide +kernel
theorem dX12_copyBook_317 : decode cX12_copyBook 317 = .ok (.imul, 1) := by decide +kernel
theorem dX12_copyBook_318 : decode cX12_copyBook 318 = .ok (.iload_n 3, 1) := by decide +kernel
theorem dX12_copyBook_319 : decode cX12_copyBook 319 = .ok (.iadd, 1) := by decide +kernel
theorem dX12_copyBook_320 : decode cX12_copyBook 320 = .ok (.aload_n 0, 1) := by decide +kernel
theorem dX12_copyBook_321 : decode cX12_copyBook 321 = .ok (.getfield 84, 3) := by decide +kernel
theorem dX12_copyBook_324 : decode cX12_copyBook 324 = .ok (.bipush 8, 2) := by decide +kernel
theorem dX12_copyBook_326 : decode cX12_copyBook 326 = .ok (.iload_n 1, 1) := by decide +kernel
theorem dX12_copyBook_327 : decode cX12_copyBook 327 = .ok (.imul, 1) := by decide +kernel
theorem dX12_copyBook_328 : decode cX12_copyBook 328 = .ok (.iload_n 3, 1) := by decide +kernel
theorem dX12_copyBook_329 : decode cX12_copyBook 329 = .ok (.iadd, 1) := by decide +kernel
theorem dX12_copyBook_330 : decode cX12_copyBook 330 = .ok (.iaload, 1) := by decide +kernel
theorem dX12_copyBook_331 : decode cX12_copyBook 331 = .ok (.iastore, 1) := by decide +kernel
theorem dX12_copyBook_332 : decode cX12_copyBook 332 = .ok (.iinc 3 1, 3) := by decide +kernel
theorem dX12_copyBook_335 : decode cX12_copyBook 335 = .ok (.goto (-75), 3) := by decide +kernel
theorem dX12_copyBook_338 : decode cX12_copyBook 338 = .ok (.return_, 1) := by decide +kernel
theorem dX12_book_0 : decode cX12_book 0 = .ok (.aload_n 0, 1) := by decide +kernel
theorem dX12_book_1 : decode cX12_book 1 = .ok (.iconst 0, 1) := by decide +kernel
theorem dX12_book_2 : decode cX12_book 2 = .ok (.putfield 158, 3) := by decide +kernel
theorem dX12_book_5 : decode cX12_book 5 = .ok (.iload_n 1, 1) := by decide +kernel
theorem dX12_book_6 : decode cX12_book 6 = .ok (.invokestatic 165, 3) := by decide +kernel
theorem dX12_book_9 : decode cX12_book 9 = .ok (.ifCond .ne 9, 3) := by decide +kernel
theorem dX12_book_12 : decode cX12_book 12 = .ok (.aload_n 0, 1) := by decide +kernel
theorem dX12_book_13 : decode cX12_book 13 = .ok (.iconst 1, 1) := by decide +kernel
theorem dX12_book_14 : decode cX12_book 14 = .ok (.invokevirtual 263, 3) := by decide +kernel
theorem dX12_book_17 : decode cX12_book 17 = .ok (.ireturn, 1) := by decide +kernel
theorem dX12_book_18 : decode cX12_book 18 = .ok (.iload_n 2, 1) := by decide +kernel
theorem dX12_book_19 : decode cX12_book 19 = .ok (.ifCond .lt 11, 3) := by decide +kernel
theorem dX12_book_22 : decode cX12_book 22 = .ok (.iload_n 2, 1) := by decide +kernel
theorem dX12_book_23 : decode cX12_book 23 = .ok (.aload_n 0, 1) := by decide +kernel
theorem dX12_book_24 : decode cX12_book 24 = .ok (.getfield 169, 3) := by decide +kernel
theorem dX12_book_27 : decode cX12_book 27 = .ok (.if_icmp .le 9, 3) := by decide +kernel
theorem dX12_book_30 : decode cX12_book 30 = .ok (.aload_n 0, 1) := by decide +kernel
theorem dX12_book_31 : decode cX12_book 31 = .ok (.iconst 2, 1) := by decide +kernel
theorem dX12_book_32 : decode cX12_book 32 = .ok (.invokevirtual 263, 3) := by decide +kernel
theorem dX12_book_35 : decode cX12_book 35 = .ok (.ireturn, 1) := by decide +kernel
theorem dX12_book_36 : decode cX12_book 36 = .ok (.aload_n 0, 1) := by decide +kernel
theorem dX12_book_37 : decode cX12_book 37 = .ok (.iload_n 2, 1) := by decide +kernel
theorem dX12_book_38 : decode cX12_book 38 = .ok (.invokevirtual 266, 3) := by decide +kernel
theorem dX12_book_41 : decode cX12_book 41 = .ok (.aload_n 0, 1) := by decide +kernel
theorem dX12_book_42 : decode cX12_book 42 = .ok (.getfield 32, 3) := by decide +kernel
theorem dX12_book_45 : decode cX12_book 45 = .ok (.bipush 6, 2) := by decide +kernel
theorem dX12_book_47 : decode cX12_book 47 = .ok (.iconst 0, 1) := by decide +kernel
theorem dX12_book_48 : decode cX12_book 48 = .ok (.iastore, 1) := by decide +kernel
theorem dX12_book_49 : decode cX12_book 49 = .ok (.aload_n 0, 1) := by decide +kernel
theorem dX12_book_50 : decode cX12_book 50 = .ok (.getfield 36, 3) := by decide +kernel
theorem dX12_book_53 : decode cX12_book 53 = .ok (.bipush 6, 2) := by decide +kernel
theorem dX12_book_55 : decode cX12_book 55 = .ok (.iconst 0, 1) := by decide +kernel
theorem dX12_book_56 : decode cX12_book 56 = .ok (.iastore, 1) := by decide +kernel
theorem dX12_book_57 : decode cX12_book 57 = .ok (.aload_n 0, 1) := by decide +kernel
theorem dX12_book_58 : decode cX12_book 58 = .ok (.getfield 39, 3) := by decide +kernel
theorem dX12_book_61 : decode cX12_book 61 = .ok (.bipush 6, 2) := by decide +kernel
theorem dX12_book_63 : decode cX12_book 63 = .ok (.iconst 0, 1) := by decide +kernel
theorem dX12_book_64 : decode cX12_book 64 = .ok (.iastore, 1) := by decide +kernel
theorem dX12_book_65 : decode cX12_book 65 = .ok (.aload_n 0, 1) := by decide +kernel
theorem dX12_book_66 : decode cX12_book 66 = .ok (.getfield 41, 3) := by decide +kernel
theorem dX12_book_69 : decode cX12_book 69 = .ok (.bipush 6, 2) := by decide +kernel
theorem dX12_book_71 : decode cX12_book 71 = .ok (.iconst 0, 1) := by decide +kernel
theorem dX12_book_72 : decode cX12_book 72 = .ok (.iastore, 1) := by decide +kernel
theorem dX12_book_73 : decode cX12_book 73 = .ok (.aload_n 0, 1) := by decide +kernel
theorem dX12_book_74 : decode cX12_book 74 = .ok (.getfield 44, 3) := by decide +kernel
theorem dX12_book_77 : decode cX12_book 77 = .ok (.bipush 6, 2) := by decide +kernel
theorem dX12_book_79 : decode cX12_book 79 = .ok (.iconst 0, 1) := by decide +kernel
theorem dX12_book_80 : decode cX12_book 80 = .ok (.iastore, 1) := by decide +kernel
theorem dX12_book_81 : decode cX12_book 81 = .ok (.aload_n 0, 1) := by decide +kernel
theorem dX12_book_82 : decode cX12_book 82 = .ok (.getfield 207, 3) := by decide +kernel
theorem dX12_book_85 : decode cX12_book 85 = .ok (.ifCond .ne 17, 3) := by decide +kernel
theorem dX12_book_88 : decode cX12_book 88 = .ok (.aload_n 0, 1) := by decide +kernel
theorem dX12_book_89 : decode cX12_book 89 = .ok (.getfield 185, 3) := by decide +kernel
theorem dX12_book_92 : decode cX12_book 92 = .ok (.ifCond .eq 10, 3) := by decide +kernel
theorem dX12_book_95 : decode cX12_book 95 = .ok (.aload_n 0, 1) := by decide +kernel
theorem dX12_book_96 : decode cX12_book 96 = .ok (.invokevirtual 269, 3) := by decide +kernel
theorem dX12_book_99 : decode cX12_book 99 = .ok (.goto (-18), 3) := by decide +kernel
theorem dX12_book_102 : decode cX12_book 102 = .ok (.aload_n 0, 1) := by decide +kernel
theorem dX12_book_103 : decode cX12_book 103 = .ok (.getfield 207, 3) := by decide +kernel
theorem dX12_book_106 : decode cX12_book 106 = .ok (.ifCond .eq 8, 3) := by decide +kernel
theorem dX12_book_109 : decode cX12_book 109 = .ok (.aload_n 0, 1) := by decide +kernel
theorem dX12_book_110 : decode cX12_book 110 = .ok (.invokevirtual 272, 3) := by decide +kernel
theorem dX12_book_113 : decode cX12_book 113 = .ok (.ireturn, 1) := by decide +kernel
theorem dX12_book_114 : decode cX12_book 114 = .ok (.aload_n 0, 1) := by decide +kernel
theorem dX12_book_115 : decode cX12_book 115 = .ok (.bipush 6, 2) := by decide +kernel
theorem dX12_book_117 : decode cX12_book 117 = .ok (.iload_n 1, 1) := by decide +kernel
theorem dX12_book_118 : decode cX12_book 118 = .ok (.invokevirtual 275, 3) := by decide +kernel
theorem dX12_book_121 : decode cX12_book 121 = .ok (.aload_n 0, 1) := by decide +kernel
theorem dX12_book_122 : decode cX12_book 122 = .ok (.getfield 47, 3) := by decide +kernel
theorem dX12_book_125 : decode cX12_book 125 = .ok (.iload_n 1, 1) := by decide +kernel
theorem dX12_book_126 : decode cX12_book 126 = .ok (.dup2, 1) := by decide +kernel
theorem dX12_book_127 : decode cX12_book 127 = .ok (.iaload, 1) := by decide +kernel
theorem dX12_book_128 : decode cX12_book 128 = .ok (.iconst 1, 1) := by decide +kernel
theorem dX12_book_129 : decode cX12_book 129 = .ok (.iadd, 1) := by decide +kernel
theorem dX12_book_130 : decode cX12_book 130 = .ok (.iastore, 1) := by decide +kernel
theorem dX12_book_131 : decode cX12_book 131 = .ok (.iconst 0, 1) := by decide +kernel
theorem dX12_book_132 : decode cX12_book 132 = .ok (.ireturn, 1) := by decide +kernel
theorem dX12_law_0 : decode cX12_law 0 = .ok (.aload_n 0, 1) := by decide +kernel
theorem dX12_law_1 : decode cX12_law 1 = .ok (.iconst 0, 1) := by decide +kernel
theorem dX12_law_2 : decode cX12_law 2 = .ok (.putfield 158, 3) := by decide +kernel
theorem dX12_law_5 : decode cX12_law 5 = .ok (.iload_n 1, 1) := by decide +kernel
theorem dX12_law_6 : decode cX12_law 6 = .ok (.ifCond .lt 11, 3) := by decide +kernel
theorem dX12_law_9 : decode cX12_law 9 = .ok (.iload_n 1, 1) := by decide +kernel
theorem dX12_law_10 : decode cX12_law 10 = .ok (.aload_n 0, 1) := by decide +kernel
theorem dX12_law_11 : decode cX12_law 11 = .ok (.getfield 169, 3) := by decide +kernel
theorem dX12_law_14 : decode cX12_law 14 = .ok (.if_icmp .le 9, 3) := by decide +kernel
theorem dX12_law_17 : decode cX12_law 17 = .ok (.aload_n 0, 1) := by decide +kernel
theorem dX12_law_18 : decode cX12_law 18 = .ok (.iconst 1, 1) := by decide +kernel
theorem dX12_law_19 : decode cX12_law 19 = .ok (.invokevirtual 263, 3) := by decide +kernel
theorem dX12_law_22 : decode cX12_law 22 = .ok (.ireturn, 1) := by decide +kernel
theorem dX12_law_23 : decode cX12_law 23 = .ok (.aload_n 0, 1) := by decide +kernel
theorem dX12_law_24 : decode cX12_law 24 = .ok (.iload_n 1, 1) := by decide +kernel
theorem dX12_law_25 : decode cX12_law 25 = .ok (.invokevirtual 266, 3) := by decide +kernel
theorem dX12_law_28 : decode cX12_law 28 = .ok (.aload_n 0, 1) := by decide +kernel
theorem dX12_law_29 : decode cX12_law 29 = .ok (.getfield 87, 3) := by decide +kernel
theorem dX12_law_32 : decode cX12_law 32 = .ok (.iconst 3, 1) := by decide +kernel
theorem dX12_law_33 : decode cX12_law 33 = .ok (.iconst 2, 1) := by decide +kernel
theorem dX12_law_34 : decode cX12_law 34 = .ok (.iastore, 1) := by decide +kernel
theorem dX12_law_35 : decode cX12_law 35 = .ok (.aload_n 0, 1) := by decide +kernel
theorem dX12_law_36 : decode cX12_law 36 = .ok (.getfield 87, 3) := by decide +kernel
theorem dX12_law_39 : decode cX12_law 39 = .ok (.iconst 4, 1) := by decide +kernel
theorem dX12_law_40 : decode cX12_law 40 = .ok (.bipush 20, 2) := by decide +kernel
theorem dX12_law_42 : decode cX12_law 42 = .ok (.iastore, 1) := by decide +kernel
theorem dX12_law_43 : decode cX12_law 43 = .ok (.aload_n 0, 1) := by decide +kernel
theorem dX12_law_44 : decode cX12_law 44 = .ok (.getfield 87, 3) := by decide +kernel
theorem dX12_law_47 : decode cX12_law 47 = .ok (.iconst 5, 1) := by decide +kernel
theorem dX12_law_48 : decode cX12_law 48 = .ok (.iconst 3, 1) := by decide +kernel
theorem dX12_law_49 : decode cX12_law 49 = .ok (.iastore, 1) := by decide +kernel
theorem dX12_law_50 : decode cX12_law 50 = .ok (.iconst 0, 1) := by decide +kernel
theorem dX12_law_51 : decode cX12_law 51 = .ok (.istore_n 2, 1) := by decide +kernel
theorem dX12_law_52 : decode cX12_law 52 = .ok (.aload_n 0, 1) := by decide +kernel
theorem dX12_law_53 : decode cX12_law 53 = .ok (.getfield 207, 3) := by decide +kernel
theorem dX12_law_56 : decode cX12_law 56 = .ok (.ifCond .ne 106, 3) := by decide +kernel
theorem dX12_law_59 : decode cX12_law 59 = .ok (.aload_n 0, 1) := by decide +kernel
theorem dX12_law_60 : decode cX12_law 60 = .ok (.getfield 185, 3) := by decide +kernel
theorem dX12_law_63 : decode cX12_law 63 = .ok (.ifCond .eq 99, 3) := by decide +kernel
theorem dX12_law_66 : decode cX12_law 66 = .ok (.aload_n 0, 1) := by decide +kernel
theorem dX12_law_67 : decode cX12_law 67 = .ok (.aload_n 0, 1) := by decide +kernel
theorem dX12_law_68 : decode cX12_law 68 = .ok (.getfield 29, 3) := by decide +kernel
theorem dX12_law_71 : decode cX12_law 71 = .ok (.invokevirtual 247, 3) := by decide +kernel
theorem dX12_law_74 : decode cX12_law 74 = .ok (.istore_n 3, 1) := by decide +kernel
theorem dX12_law_75 : decode cX12_law 75 = .ok (.iload_n 3, 1) := by decide +kernel
theorem dX12_law_76 : decode cX12_law 76 = .ok (.iconst (-1), 1) := by decide +kernel
theorem dX12_law_77 : decode cX12_law 77 = .ok (.if_icmp .ne 11, 3) := by decide +kernel
theorem dX12_law_80 : decode cX12_law 80 = .ok (.aload_n 0, 1) := by decide +kernel
theorem dX12_law_81 : decode cX12_law 81 = .ok (.iconst 1, 1) := by decide +kernel
theorem dX12_law_82 : decode cX12_law 82 = .ok (.invokevirtual 228, 3) := by decide +kernel
theorem dX12_law_85 : decode cX12_law 85 = .ok (.goto 17, 3) := by decide +kernel
theorem dX12_law_88 : decode cX12_law 88 = .ok (.iload_n 2, 1) := by decide +kernel
theorem dX12_law_89 : decode cX12_law 89 = .ok (.iload_n 3, 1) := by decide +kernel
theorem dX12_law_90 : decode cX12_law 90 = .ok (.ishr, 1) := by decide +kernel
theorem dX12_law_91 : decode cX12_law 91 = .ok (.iconst 1, 1) := by decide +kernel
theorem dX12_law_92 : decode cX12_law 92 = .ok (.iand, 1) := by decide +kernel
theorem dX12_law_93 : decode cX12_law 93 = .ok (.iconst 1, 1) := by decide +kernel
theorem dX12_law_94 : decode cX12_law 94 = .ok (.if_icmp .ne 8, 3) := by decide +kernel
theorem dX12_law_97 : decode cX12_law 97 = .ok (.aload_n 0, 1) := by decide +kernel
theorem dX12_law_98 : decode cX12_law 98 = .ok (.iconst 5, 1) := by decide +kernel
theorem dX12_law_99 : decode cX12_law 99 = .ok (.invokevirtual 228, 3) := by decide +kernel
theorem dX12_law_102 : decode cX12_law 102 = .ok (.aload_n 0, 1) := by decide +kernel
theorem dX12_law_103 : decode cX12_law 103 = .ok (.getfield 207, 3) := by decide +kernel
theorem dX12_law_106 : decode cX12_law 106 = .ok (.ifCond .eq 6, 3) := by decide +kernel
theorem dX12_law_109 : decode cX12_law 109 = .ok (.goto (-57), 3) := by decide +kernel
theorem dX12_law_112 : decode cX12_law 112 = .ok (.iload_n 2, 1) := by decide +kernel
theorem dX12_law_113 : decode cX12_law 113 = .ok (.iconst 1, 1) := by decide +kernel
theorem dX12_law_114 : decode cX12_law 114 = .ok (.iload_n 3, 1) := by decide +kernel
theorem dX12_law_115 : decode cX12_law 115 = .ok (.ishl, 1) := by decide +kernel
theorem dX12_law_116 : decode cX12_law 116 = .ok (.ior, 1) := by decide +kernel
theorem dX12_law_117 : decode cX12_law 117 = .ok (.istore_n 2, 1) := by decide +kernel
theorem dX12_law_118 : decode cX12_law 118 = .ok (.aload_n 0, 1) := by decide +kernel
theorem dX12_law_119 : decode cX12_law 119 = .ok (.invokevirtual 225, 3) := by decide +kernel
theorem dX12_law_122 : decode cX12_law 122 = .ok (.aload_n 0, 1) := by decide +kernel
theorem dX12_law_123 : decode cX12_law 123 = .ok (.getfield 87, 3) := by decide +kernel
theorem dX12_law_126 : decode cX12_law 126 = .ok (.iconst 3, 1) := by decide +kernel
theorem dX12_law_127 : decode cX12_law 127 = .ok (.iload_n 3, 1) := by decide +kernel
theorem dX12_law_128 : decode cX12_law 128 = .ok (.iadd, 1) := by decide +kernel
theorem dX12_law_129 : decode cX12_law 129 = .ok (.aload_n 0, 1) := by decide +kernel
theorem dX12_law_130 : decode cX12_law 130 = .ok (.iload_n 3, 1) := by decide +kernel
theorem dX12_law_131 : decode cX12_law 131 = .ok (.ifCond .ne 7, 3) := by decide +kernel
theorem dX12_law_134 : decode cX12_law 134 = .ok (.iconst 1, 1) := by decide +kernel
theorem dX12_law_135 : decode cX12_law 135 = .ok (.goto 4, 3) := by decide +kernel
theorem dX12_law_138 : decode cX12_law 138 = .ok (.iconst 0, 1) := by decide +kernel
theorem dX12_law_139 : decode cX12_law 139 = .ok (.iload_n 3, 1) := by decide +kernel
theorem dX12_law_140 : decode cX12_law 140 = .ok (.iconst 1, 1) := by decide +kernel
theorem dX12_law_141 : decode cX12_law 141 = .ok (.if_icmp .ne 8, 3) := by decide +kernel
theorem dX12_law_144 : decode cX12_law 144 = .ok (.bipush 90, 2) := by decide +kernel
theorem dX12_law_146 : decode cX12_law 146 = .ok (.goto 5, 3) := by decide +kernel
theorem dX12_law_149 : decode cX12_law 149 = .ok (.bipush 50, 2) := by decide +kernel
theorem dX12_law_151 : decode cX12_law 151 = .ok (.invokevirtual 235, 3) := by decide +kernel
theorem dX12_law_154 : decode cX12_law 154 = .ok (.iastore, 1) := by decide +kernel
theorem dX12_law_155 : decode cX12_law 155 = .ok (.aload_n 0, 1) := by decide +kernel
theorem dX12_law_156 : decode cX12_law 156 = .ok (.invokevirtual 260, 3) := by decide +kernel
theorem dX12_law_159 : decode cX12_law 159 = .ok (.goto (-107), 3) := by decide +kernel
theorem dX12_law_162 : decode cX12_law 162 = .ok (.aload_n 0, 1) := by decide +kernel
theorem dX12_law_163 : decode cX12_law 163 = .ok (.getfield 207, 3) := by decide +kernel
theorem dX12_law_166 : decode cX12_law 166 = .ok (.ifCond .eq 8, 3) := by decide +kernel
theorem dX12_law_169 : decode cX12_law 169 = .ok (.aload_n 0, 1) := by decide +kernel
theorem dX12_law_170 : decode cX12_law 170 = .ok (.invokevirtual 272, 3) := by decide +kernel
theorem dX12_law_173 : decode cX12_law 173 = .ok (.ireturn, 1) := by decide +kernel
theorem dX12_law_174 : decode cX12_law 174 = .ok (.iconst 0, 1) := by decide +kernel
theorem dX12_law_175 : decode cX12_law 175 = .ok (.istore_n 3, 1) := by decide +kernel
theorem dX12_law_176 : decode cX12_law 176 = .ok (.iload_n 3, 1) := by decide +kernel
theorem dX12_law_177 : decode cX12_law 177 = .ok (.iconst 3, 1) := by decide +kernel
theorem dX12_law_178 : decode cX12_law 178 = .ok (.if_icmp .ge 23, 3) := by decide +kernel
theorem dX12_law_181 : decode cX12_law 181 = .ok (.aload_n 0, 1) := by decide +kernel
theorem dX12_law_182 : decode cX12_law 182 = .ok (.getfield 87, 3) := by decide +kernel
theorem dX12_law_185 : decode cX12_law 185 = .ok (.iload_n 3, 1) := by decide +kernel
theorem dX12_law_186 : decode cX12_law 186 = .ok (.aload_n 0, 1) := by decide +kernel
theorem dX12_law_187 : decode cX12_law 187 = .ok (.getfield 87, 3) := by decide +kernel
theorem dX12_law_190 : decode cX12_law 190 = .ok (.iconst 3, 1) := by decide +kernel
theorem dX12_law_191 : decode cX12_law 191 = .ok (.iload_n 3, 1) := by decide +kernel
theorem dX12_law_192 : decode cX12_law 192 = .ok (.iadd, 1) := by decide +kernel
theorem dX12_law_193 : decode cX12_law 193 = .ok (.iaload, 1) := by decide +kernel
theorem dX12_law_194 : decode cX12_law 194 = .ok (.iastore, 1) := by decide +kernel
theorem dX12_law_195 : decode cX12_law 195 = .ok (.iinc 3 1, 3) := by decide +kernel
theorem dX12_law_198 : decode cX12_law 198 = .ok (.goto (-22), 3) := by decide +kernel
theorem dX12_law_201 : decode cX12_law 201 = .ok (.iconst 0, 1) := by decide +kernel
theorem dX12_law_202 : decode cX12_law 202 = .ok (.ireturn, 1) := by decide +kernel
theorem dX12_way_0 : decode cX12_way 0 = .ok (.aload_n 0, 1) := by decide +kernel
theorem dX12_way_1 : decode cX12_way 1 = .ok (.iconst 0, 1) := by decide +kernel
theorem dX12_way_2 : decode cX12_way 2 = .ok (.putfield 158, 3) := by decide +kernel
theorem dX12_way_5 : decode cX12_way 5 = .ok (.iload_n 1, 1) := by decide +kernel
theorem dX12_way_6 : decode cX12_way 6 = .ok (.invokestatic 279, 3) := by decide +kernel
theorem dX12_way_9 : decode cX12_way 9 = .ok (.ifCond .ne 9, 3) := by decide +kernel
theorem dX12_way_12 : decode cX12_way 12 = .ok (.aload_n 0, 1) := by decide +kernel
theorem dX12_way_13 : decode cX12_way 13 = .ok (.iconst 1, 1) := by decide +kernel
theorem dX12_way_14 : decode cX12_way 14 = .ok (.invokevirtual 263, 3) := by decide +kernel
theorem dX12_way_17 : decode cX12_way 17 = .ok (.ireturn, 1) := by decide +kernel
theorem dX12_way_18 : decode cX12_way 18 = .ok (.iload_n 2, 1) := by decide +kernel
theorem dX12_way_19 : decode cX12_way 19 = .ok (.ifCond .lt 11, 3) := by decide +kernel
theorem dX12_way_22 : decode cX12_way 22 = .ok (.iload_n 2, 1) := by decide +kernel
theorem dX12_way_23 : decode cX12_way 23 = .ok (.aload_n 0, 1) := by decide +kernel
theorem dX12_way_24 : decode cX12_way 24 = .ok (.getfield 169, 3) := by decide +kernel
theorem dX12_way_27 : decode cX12_way 27 = .ok (.if_icmp .le 9, 3) := by decide +kernel
theorem dX12_way_30 : decode cX12_way 30 = .ok (.aload_n 0, 1) := by decide +kernel
theorem dX12_way_31 : decode cX12_way 31 = .ok (.iconst 2, 1) := by decide +kernel
theorem dX12_way_32 : decode cX12_way 32 = .ok (.invokevirtual 263, 3) := by decide +kernel
theorem dX12_way_35 : decode cX12_way 35 = .ok (.ireturn, 1) := by decide +kernel
theorem dX12_way_36 : decode cX12_way 36 = .ok (.aload_n 0, 1) := by decide +kernel
theorem dX12_way_37 : decode cX12_way 37 = .ok (.iload_n 2, 1) := by decide +kernel
theorem dX12_way_38 : decode cX12_way 38 = .ok (.invokevirtual 266, 3) := by decide +kernel
theorem dX12_way_41 : decode cX12_way 41 = .ok (.bipush 72, 2) := by decide +kernel
theorem dX12_way_43 : decode cX12_way 43 = .ok (.istore_n 3, 1) := by decide +kernel
theorem dX12_way_44 : decode cX12_way 44 = .ok (.iconst 0, 1) := by decide +kernel
theorem dX12_way_45 : decode cX12_way 45 = .ok (.istore 4, 2) := by decide +kernel
theorem dX12_way_47 : decode cX12_way 47 = .ok (.iload 4, 2) := by decide +kernel
theorem dX12_way_49 : decode cX12_way 49 = .ok (.bipush 12, 2) := by decide +kernel
theorem dX12_way_51 : decode cX12_way 51 = .ok (.if_icmp .ge 19, 3) := by decide +kernel
theorem dX12_way_54 : decode cX12_way 54 = .ok (.aload_n 0, 1) := by decide +kernel
theorem dX12_way_55 : decode cX12_way 55 = .ok (.getfield 90, 3) := by decide +kernel
theorem dX12_way_58 : decode cX12_way 58 = .ok (.iload_n 3, 1) := by decide +kernel
theorem dX12_way_59 : decode cX12_way 59 = .ok (.iload 4, 2) := by decide +kernel
theorem dX12_way_61 : decode cX12_way 61 = .ok (.iadd, 1) := by decide +kernel
theorem dX12_way_62 : decode cX12_way 62 = .ok (.iconst (-1), 1) := by decide +kernel
theorem dX12_way_63 : decode cX12_way 63 = .ok (.iastore, 1) := by decide +kernel
theorem dX12_way_64 : decode cX12_way 64 = .ok (.iinc 4 1, 3) := by decide +kernel
theorem dX12_way_67 : decode cX12_way 67 = .ok (.goto (-20), 3) := by decide +kernel
theorem dX12_way_70 : decode cX12_way 70 = .ok (.aload_n 0, 1) := by decide +kernel
theorem dX12_way_71 : decode cX12_way 71 = .ok (.getfield 207, 3) := by decide +kernel
theorem dX12_way_74 : decode cX12_way 74 = .ok (.ifCond .ne 158, 3) := by decide +kernel
theorem dX12_way_77 : decode cX12_way 77 = .ok (.aload_n 0, 1) := by decide +kernel
theorem dX12_way_78 : decode cX12_way 78 = .ok (.getfield 185, 3) := by decide +kernel
theorem dX12_way_81 : decode cX12_way 81 = .ok (.ifCond .eq 151, 3) := by decide +kernel
theorem dX12_way_84 : decode cX12_way 84 = .ok (.aload_n 0, 1) := by decide +kernel
theorem dX12_way_85 : decode cX12_way 85 = .ok (.ldc_w 282, 3) := by decide +kernel
theorem dX12_way_88 : decode cX12_way 88 = .ok (.invokevirtual 221, 3) := by decide +kernel
theorem dX12_way_91 : decode cX12_way 91 = .ok (.ifCond .ne 8, 3) := by decide +kernel
theorem dX12_way_94 : decode cX12_way 94 = .ok (.aload_n 0, 1) := by decide +kernel
theorem dX12_way_95 : decode cX12_way 95 = .ok (.iconst 1, 1) := by decide +kernel
theorem dX12_way_96 : decode cX12_way 96 = .ok (.invokevirtual 228, 3) := by decide +kernel
theorem dX12_way_99 : decode cX12_way 99 = .ok (.aload_n 0, 1) := by decide +kernel
theorem dX12_way_100 : decode cX12_way 100 = .ok (.getfield 207, 3) := by decide +kernel
theorem dX12_way_103 : decode cX12_way 103 = .ok (.ifCond .eq 6, 3) := by decide +kernel
theorem dX12_way_106 : decode cX12_way 106 = .ok (.goto (-36), 3) := by decide +kernel
theorem dX12_way_109 : decode cX12_way 109 = .ok (.aload_n 0, 1) := by decide +kernel
theorem dX12_way_110 : decode cX12_way 110 = .ok (.invokevirtual 225, 3) := by decide +kernel
theorem dX12_way_113 : decode cX12_way 113 = .ok (.aload_n 0, 1) := by decide +kernel
theorem dX12_way_114 : decode cX12_way 114 = .ok (.getfield 185, 3) := by decide +kernel
theorem dX12_way_117 : decode cX12_way 117 = .ok (.iconst 2, 1) := by decide +kernel
theorem dX12_way_118 : decode cX12_way 118 = .ok (.if_icmp .ne 45, 3) := by decide +kernel
theorem dX12_way_121 : decode cX12_way 121 = .ok (.aload_n 0, 1) := by decide +kernel
theorem dX12_way_122 : decode cX12_way 122 = .ok (.getfield 204, 3) := by decide +kernel
theorem dX12_way_125 : decode cX12_way 125 = .ok (.aload_n 0, 1) := by decide +kernel
theorem dX12_way_126 : decode cX12_way 126 = .ok (.getfield 182, 3) := by decide +kernel
theorem dX12_way_129 : decode cX12_way 129 = .ok (.isub, 1) := by decide +kernel
theorem dX12_way_130 : decode cX12_way 130 = .ok (.iconst 4, 1) := by decide +kernel
theorem dX12_way_131 : decode cX12_way 131 = .ok (.if_icmp .gt 32, 3) := by decide +kernel
theorem dX12_way_134 : decode cX12_way 134 = .ok (.aload_n 0, 1) := by decide +kernel
theorem dX12_way_135 : decode cX12_way 135 = .ok (.getfield 194, 3) := by decide +kernel
theorem dX12_way_138 : decode cX12_way 138 = .ok (.bipush 12, 2) := by decide +kernel
theorem dX12_way_140 : decode cX12_way 140 = .ok (.if_icmp .ge 23, 3) := by decide +kernel
theorem dX12_way_143 : decode cX12_way 143 = .ok (.aload_n 0, 1) := by decide +kernel
theorem dX12_way_144 : decode cX12_way 144 = .ok (.getfield 90, 3) := by decide +kernel
theorem dX12_way_147 : decode cX12_way 147 = .ok (.iload_n 3, 1) := by decide +kernel
theorem dX12_way_148 : decode cX12_way 148 = .ok (.aload_n 0, 1) := by decide +kernel
theorem dX12_way_149 : decode cX12_way 149 = .ok (.getfield 194, 3) := by decide +kernel
theorem dX12_way_152 : decode cX12_way 152 = .ok (.iadd, 1) := by decide +kernel
theorem dX12_way_153 : decode cX12_way 153 = .ok (.iaload, 1) := by decide +kernel
theorem dX12_way_154 : decode cX12_way 154 = .ok (.iconst (-1), 1) := by decide +kernel
theorem dX12_way_155 : decode cX12_way 155 = .ok (.if_icmp .eq 8, 3) := by decide +kernel
theorem dX12_way_158 : decode cX12_way 158 = .ok (.aload_n 0, 1) := by decide +kernel
theorem dX12_way_159 : decode cX12_way 159 = .ok (.iconst 5, 1) := by decide +kernel
theorem dX12_way_160 : decode cX12_way 160 = .ok (.invokevirtual 228, 3) := by decide +kernel
theorem dX12_way_163 : decode cX12_way 163 = .ok (.aload_n 0, 1) := by decide +kernel
theorem dX12_way_164 : decode cX12_way 164 = .ok (.iconst 0, 1) := by decide +kernel
theorem dX12_way_165 : decode cX12_way 165 = .ok (.bipush 11, 2) := by decide +kernel
theorem dX12_way_167 : decode cX12_way 167 = .ok (.invokevirtual 235, 3) := by decide +kernel
theorem dX12_way_170 : decode cX12_way 170 = .ok (.istore 4, 2) := by decide +kernel
theorem dX12_way_172 : decode cX12_way 172 = .ok (.aload_n 0, 1) := by decide +kernel
theorem dX12_way_173 : decode cX12_way 173 = .ok (.iconst 1, 1) := by decide +kernel
theorem dX12_way_174 : decode cX12_way 174 = .ok (.bipush 99, 2) := by decide +kernel
theorem dX12_way_176 : decode cX12_way 176 = .ok (.invokevirtual 235, 3) := by decide +kernel
theorem dX12_way_179 : decode cX12_way 179 = .ok (.istore 5, 2) := by decide +kernel
theorem dX12_way_181 : decode cX12_way 181 = .ok (.aload_n 0, 1) := by decide +kernel
theorem dX12_way_182 : decode cX12_way 182 = .ok (.ldc_w 283, 3) := by decide +kernel
theorem dX12_way_185 : decode cX12_way 185 = .ok (.bipush 50, 2) := by decide +kernel
theorem dX12_way_187 : decode cX12_way 187 = .ok (.iconst 0, 1) := by decide +kernel
theorem dX12_way_188 : decode cX12_way 188 = .ok (.invokevirtual 239, 3) := by decide +kernel
theorem dX12_way_191 : decode cX12_way 191 = .ok (.istore 6, 2) := by decide +kernel
theorem dX12_way_193 : decode cX12_way 193 = .ok (.aload_n 0, 1) := by decide +kernel
theorem dX12_way_194 : decode cX12_way 194 = .ok (.invokevirtual 260, 3) := by decide +kernel
theorem dX12_way_197 : decode cX12_way 197 = .ok (.aload_n 0, 1) := by decide +kernel
theorem dX12_way_198 : decode cX12_way 198 = .ok (.getfield 207, 3) := by decide +kernel
theorem dX12_way_201 : decode cX12_way 201 = .ok (.ifCond .eq 6, 3) := by decide +kernel
theorem dX12_way_204 : decode cX12_way 204 = .ok (.goto (-134), 3) := by decide +kernel
theorem dX12_way_207 : decode cX12_way 207 = .ok (.aload_n 0, 1) := by decide +kernel
theorem dX12_way_208 : decode cX12_way 208 = .ok (.getfield 90, 3) := by decide +kernel
theorem dX12_way_211 : decode cX12_way 211 = .ok (.iload_n 3, 1) := by decide +kernel
theorem dX12_way_212 : decode cX12_way 212 = .ok (.iload 4, 2) := by decide +kernel
theorem dX12_way_214 : decode cX12_way 214 = .ok (.iadd, 1) := by decide +kernel
theorem dX12_way_215 : decode cX12_way 215 = .ok (.iload 5, 2) := by decide +kernel
theorem dX12_way_217 : decode cX12_way 217 = .ok (.iastore, 1) := by decide +kernel
theorem dX12_way_218 : decode cX12_way 218 = .ok (.aload_n 0, 1) := by decide +kernel
theorem dX12_way_219 : decode cX12_way 219 = .ok (.getfield 93, 3) := by decide +kernel
theorem dX12_way_222 : decode cX12_way 222 = .ok (.iload_n 3, 1) := by decide +kernel
theorem dX12_way_223 : decode cX12_way 223 = .ok (.iload 4, 2) := by decide +kernel
theorem dX12_way_225 : decode cX12_way 225 = .ok (.iadd, 1) := by decide +kernel
theorem dX12_way_226 : decode cX12_way 226 = .ok (.iload 6, 2) := by decide +kernel
theorem dX12_way_228 : decode cX12_way 228 = .ok (.iastore, 1) := by decide +kernel
theorem dX12_way_229 : decode cX12_way 229 = .ok (.goto (-159), 3) := by decide +kernel
theorem dX12_way_232 : decode cX12_way 232 = .ok (.aload_n 0, 1) := by decide +kernel
theorem dX12_way_233 : decode cX12_way 233 = .ok (.getfield 207, 3) := by decide +kernel
theorem dX12_way_236 : decode cX12_way 236 = .ok (.ifCond .eq 8, 3) := by decide +kernel
theorem dX12_way_239 : decode cX12_way 239 = .ok (.aload_n 0, 1) := by decide +kernel
theorem dX12_way_240 : decode cX12_way 240 = .ok (.invokevirtual 272, 3) := by decide +kernel
theorem dX12_way_243 : decode cX12_way 243 = .ok (.ireturn, 1) := by decide +kernel
theorem dX12_way_244 : decode cX12_way 244 = .ok (.iconst 0, 1) := by decide +kernel
theorem dX12_way_245 : decode cX12_way 245 = .ok (.istore 4, 2) := by decide +kernel
theorem dX12_way_247 : decode cX12_way 247 = .ok (.iload 4, 2) := by decide +kernel
theorem dX12_way_249 : decode cX12_way 249 = .ok (.bipush 12, 2) := by decide +kernel
theorem dX12_way_251 : decode cX12_way 251 = .ok (.if_icmp .ge 51, 3) := by decide +kernel
theorem dX12_way_254 : decode cX12_way 254 = .ok (.aload_n 0, 1) := by decide +kernel
theorem dX12_way_255 : decode cX12_way 255 = .ok (.getfield 90, 3) := by decide +kernel
theorem dX12_way_258 : decode cX12_way 258 = .ok (.bipush 12, 2) := by decide +kernel
theorem dX12_way_260 : decode cX12_way 260 = .ok (.iload_n 1, 1) := by decide +kernel
theorem dX12_way_261 : decode cX12_way 261 = .ok (.imul, 1) := by decide +kernel
theorem dX12_way_262 : decode cX12_way 262 = .ok (.iload 4, 2) := by decide +kernel
theorem dX12_way_264 : decode cX12_way 264 = .ok (.iadd, 1) := by decide +kernel
theorem dX12_way_265 : decode cX12_way 265 = .ok (.aload_n 0, 1) := by decide +kernel
theorem dX12_way_266 : decode cX12_way 266 = .ok (.getfield 90, 3) := by decide +kernel
theorem dX12_way_269 : decode cX12_way 269 = .ok (.iload_n 3, 1) := by decide +kernel
theorem dX12_way_270 : decode cX12_way 270 = .ok (.iload 4, 2) := by decide +kernel
theorem dX12_way_272 : decode cX12_way 272 = .ok (.iadd, 1) := by decide +kernel
theorem dX12_way_273 : decode cX12_way 273 = .ok (.iaload, 1) := by decide +kernel
theorem dX12_way_274 : decode cX12_way 274 = .ok (.iastore, 1) := by decide +kernel
theorem dX12_way_275 : decode cX12_way 275 = .ok (.aload_n 0, 1) := by decide +kernel
theorem dX12_way_276 : decode cX12_way 276 = .ok (.getfield 93, 3) := by decide +kernel
theorem dX12_way_279 : decode cX12_way 279 = .ok (.bipush 12, 2) := by decide +kernel
theorem dX12_way_281 : decode cX12_way 281 = .ok (.iload_n 1, 1) := by decide +kernel
theorem dX12_way_282 : decode cX12_way 282 = .ok (.imul, 1) := by decide +kernel
theorem dX12_way_283 : decode cX12_way 283 = .ok (.iload 4, 2) := by decide +kernel
theorem dX12_way_285 : decode cX12_way 285 = .ok (.iadd, 1) := by decide +kernel
theorem dX12_way_286 : decode cX12_way 286 = .ok (.aload_n 0, 1) := by decide +kernel
theorem dX12_way_287 : decode cX12_way 287 = .ok (.getfield 93, 3) := by decide +kernel
theorem dX12_way_290 : decode cX12_way 290 = .ok (.iload_n 3, 1) := by decide +kernel
theorem dX12_way_291 : decode cX12_way 291 = .ok (.iload 4, 2) := by decide +kernel
theorem dX12_way_293 : decode cX12_way 293 = .ok (.iadd, 1) := by decide +kernel
theorem dX12_way_294 : decode cX12_way 294 = .ok (.iaload, 1) := by decide +kernel
theorem dX12_way_295 : decode cX12_way 295 = .ok (.iastore, 1) := by decide +kernel
theorem dX12_way_296 : decode cX12_way 296 = .ok (.iinc 4 1, 3) := by decide +kernel
theorem dX12_way_299 : decode cX12_way 299 = .ok (.goto (-52), 3) := by decide +kernel
theorem dX12_way_302 : decode cX12_way 302 = .ok (.iconst 0, 1) := by decide +kernel
theorem dX12_way_303 : decode cX12_way 303 = .ok (.ireturn, 1) := by decide +kernel
theorem dX12_fault_0 : decode cX12_fault 0 = .ok (.aload_n 0, 1) := by decide +kernel
theorem dX12_fault_1 : decode cX12_fault 1 = .ok (.iconst 0, 1) := by decide +kernel
theorem dX12_fault_2 : decode cX12_fault 2 = .ok (.putfield 158, 3) := by decide +kernel
theorem dX12_fault_5 : decode cX12_fault 5 = .ok (.aload_n 0, 1) := by decide +kernel
theorem dX12_fault_6 : decode cX12_fault 6 = .ok (.getfield 102, 3) := by decide +kernel
theorem dX12_fault_9 : decode cX12_fault 9 = .ok (.ireturn, 1) := by decide +kernel
theorem dX12_count_0 : decode cX12_count 0 = .ok (.aload_n 0, 1) := by decide +kernel
theorem dX12_count_1 : decode cX12_count 1 = .ok (.iconst 0, 1) := by decide +kernel
theorem dX12_count_2 : decode cX12_count 2 = .ok (.putfield 158, 3) := by decide +kernel
theorem dX12_count_5 : decode cX12_count 5 = .ok (.iload_n 1, 1) := by decide +kernel
theorem dX12_count_6 : decode cX12_count 6 = .ok (.iconst 0, 1) := by decide +kernel
theorem dX12_count_7 : decode cX12_count 7 = .ok (.iconst 2, 1) := by decide +kernel
theorem dX12_count_8 : decode cX12_count 8 = .ok (.invokestatic 161, 3) := by decide +kernel
theorem dX12_count_11 : decode cX12_count 11 = .ok (.ifCond .eq 10, 3) := by decide +kernel
theorem dX12_count_14 : decode cX12_count 14 = .ok (.aload_n 0, 1) := by decide +kernel
theorem dX12_count_15 : decode cX12_count 15 = .ok (.getfield 87, 3) := by decide +kernel
theorem dX12_count_18 : decode cX12_count 18 = .ok (.iload_n 1, 1) := by decide +kernel
theorem dX12_count_19 : decode cX12_count 19 = .ok (.iaload, 1) := by decide +kernel
theorem dX12_count_20 : decode cX12_count 20 = .ok (.ireturn, 1) := by decide +kernel
theorem dX12_count_21 : decode cX12_count 21 = .ok (.iload_n 1, 1) := by decide +kernel
theorem dX12_count_22 : decode cX12_count 22 = .ok (.iconst 5, 1) := by decide +kernel
theorem dX12_count_23 : decode cX12_count 23 = .ok (.bipush 8, 2) := by decide +kernel
theorem dX12_count_25 : decode cX12_count 25 = .ok (.invokestatic 161, 3) := by decide +kernel
theorem dX12_count_28 : decode cX12_count 28 = .ok (.ifCond .eq 12, 3) := by decide +kernel
theorem dX12_count_31 : decode cX12_count 31 = .ok (.aload_n 0, 1) := by decide +kernel
theorem dX12_count_32 : decode cX12_count 32 = .ok (.getfield 96, 3) := by decide +kernel
theorem dX12_count_35 : decode cX12_count 35 = .ok (.iload_n 1, 1) := by decide +kernel
theorem dX12_count_36 : decode cX12_count 36 = .ok (.iconst 5, 1) := by decide +kernel
theorem dX12_count_37 : decode cX12_count 37 = .ok (.isub, 1) := by decide +kernel
theorem dX12_count_38 : decode cX12_count 38 = .ok (.iaload, 1) := by decide +kernel
theorem dX12_count_39 : decode cX12_count 39 = .ok (.ireturn, 1) := by decide +kernel
theorem dX12_count_40 : decode cX12_count 40 = .ok (.iload_n 1, 1) := by decide +kernel
theorem dX12_count_41 : decode cX12_count 41 = .ok (.iconst 3, 1) := by decide +kernel
theorem dX12_count_42 : decode cX12_count 42 = .ok (.if_icmp .ne 10, 3) := by decide +kernel
theorem dX12_count_45 : decode cX12_count 45 = .ok (.aload_n 0, 1) := by decide +kernel
theorem dX12_count_46 : decode cX12_count 46 = .ok (.getfield 169, 3) := by decide +kernel
theorem dX12_count_49 : decode cX12_count 49 = .ok (.goto 20, 3) := by decide +kernel
theorem dX12_count_52 : decode cX12_count 52 = .ok (.iload_n 1, 1) := by decide +kernel
theorem dX12_count_53 : decode cX12_count 53 = .ok (.iconst 4, 1) := by decide +kernel
theorem dX12_count_54 : decode cX12_count 54 = .ok (.if_icmp .ne 10, 3) := by decide +kernel
theorem dX12_count_57 : decode cX12_count 57 = .ok (.aload_n 0, 1) := by decide +kernel
theorem dX12_count_58 : decode cX12_count 58 = .ok (.getfield 285, 3) := by decide +kernel
theorem dX12_count_61 : decode cX12_count 61 = .ok (.goto 8, 3) := by decide +kernel
theorem dX12_count_64 : decode cX12_count 64 = .ok (.aload_n 0, 1) := by decide +kernel
theorem dX12_count_65 : decode cX12_count 65 = .ok (.iconst 1, 1) := by decide +kernel
theorem dX12_count_66 : decode cX12_count 66 = .ok (.invokevirtual 263, 3) := by decide +kernel
theorem dX12_count_69 : decode cX12_count 69 = .ok (.ireturn, 1) := by decide +kernel
theorem dX12_isKnown_0 : decode cX12_isKnown 0 = .ok (.iconst 0, 1) := by decide +kernel
theorem dX12_isKnown_1 : decode cX12_isKnown 1 = .ok (.istore_n 2, 1) := by decide +kernel
theorem dX12_isKnown_2 : decode cX12_isKnown 2 = .ok (.iload_n 2, 1) := by decide +kernel
theorem dX12_isKnown_3 : decode cX12_isKnown 3 = .ok (.aload_n 0, 1) := by decide +kernel
theorem dX12_isKnown_4 : decode cX12_isKnown 4 = .ok (.getfield 32, 3) := by decide +kernel
theorem dX12_isKnown_7 : decode cX12_isKnown 7 = .ok (.iload_n 1, 1) := by decide +kernel
theorem dX12_isKnown_8 : decode cX12_isKnown 8 = .ok (.iaload, 1) := by decide +kernel
theorem dX12_isKnown_9 : decode cX12_isKnown 9 = .ok (.if_icmp .ge 25, 3) := by decide +kernel
theorem dX12_isKnown_12 : decode cX12_isKnown 12 = .ok (.aload_n 0, 1) := by decide +kernel
theorem dX12_isKnown_13 : decode cX12_isKnown 13 = .ok (.getfield 66, 3) := by decide +kernel
theorem dX12_isKnown_16 : decode cX12_isKnown 16 = .ok (.iload_n 1, 1) := by decide +kernel
theorem dX12_isKnown_17 : decode cX12_isKnown 17 = .ok (.iload_n 2, 1) := by decide +kernel
theorem dX12_isKnown_18 : decode cX12_isKnown 18 = .ok (.invokestatic 244, 3) := by decide +kernel
theorem dX12_isKnown_21 : decode cX12_isKnown 21 = .ok (.iaload, 1) := by decide +kernel
theorem dX12_isKnown_22 : decode cX12_isKnown 22 = .ok (.iconst (-1), 1) := by decide +kernel
theorem dX12_isKnown_23 : decode cX12_isKnown 23 = .ok (.if_icmp .ne 5, 3) := by decide +kernel
theorem dX12_isKnown_26 : decode cX12_isKnown 26 = .ok (.iconst 0, 1) := by decide +kernel
theorem dX12_isKnown_27 : decode cX12_isKnown 27 = .ok (.ireturn, 1) := by decide +kernel
theorem dX12_isKnown_28 : decode cX12_isKnown 28 = .ok (.iinc 2 1, 3) := by decide +kernel
theorem dX12_isKnown_31 : decode cX12_isKnown 31 = .ok (.goto (-29), 3) := by decide +kernel
theorem dX12_isKnown_34 : decode cX12_isKnown 34 = .ok (.aload_n 0, 1) := by decide +kernel
theorem dX12_isKnown_35 : decode cX12_isKnown 35 = .ok (.getfield 32, 3) := by decide +kernel
theorem dX12_isKnown_38 : decode cX12_isKnown 38 = .ok (.iload_n 1, 1) := by decide +kernel
theorem dX12_isKnown_39 : decode cX12_isKnown 39 = .ok (.iaload, 1) := by decide +kernel
theorem dX12_isKnown_40 : decode cX12_isKnown 40 = .ok (.ifCond .le 7, 3) := by decide +kernel
theorem dX12_isKnown_43 : decode cX12_isKnown 43 = .ok (.iconst 1, 1) := by decide +kernel
theorem dX12_isKnown_44 : decode cX12_isKnown 44 = .ok (.goto 4, 3) := by decide +kernel
theorem dX12_isKnown_47 : decode cX12_isKnown 47 = .ok (.iconst 0, 1) := by decide +kernel
theorem dX12_isKnown_48 : decode cX12_isKnown 48 = .ok (.ireturn, 1) := by decide +kernel
theorem dX12_kindsOf_0 : decode cX12_kindsOf 0 = .ok (.iconst 0, 1) := by decide +kernel
theorem dX12_kindsOf_1 : decode cX12_kindsOf 1 = .ok (.istore_n 2, 1) := by decide +kernel
theorem dX12_kindsOf_2 : decode cX12_kindsOf 2 = .ok (.iconst 0, 1) := by decide +kernel
theorem dX12_kindsOf_3 : decode cX12_kindsOf 3 = .ok (.istore_n 3, 1) := by decide +kernel
theorem dX12_kindsOf_4 : decode cX12_kindsOf 4 = .ok (.iload_n 3, 1) := by decide +kernel
theorem dX12_kindsOf_5 : decode cX12_kindsOf 5 = .ok (.aload_n 0, 1) := by decide +kernel
theorem dX12_kindsOf_6 : decode cX12_kindsOf 6 = .ok (.getfield 32, 3) := by decide +kernel
theorem dX12_kindsOf_9 : decode cX12_kindsOf 9 = .ok (.iload_n 1, 1) := by decide +kernel
theorem dX12_kindsOf_10 : decode cX12_kindsOf 10 = .ok (.iaload, 1) := by decide +kernel
theorem dX12_kindsOf_11 : decode cX12_kindsOf 11 = .ok (.if_icmp .ge 24, 3) := by decide +kernel
theorem dX12_kindsOf_14 : decode cX12_kindsOf 14 = .ok (.iload_n 2, 1) := by decide +kernel
theorem dX12_kindsOf_15 : decode cX12_kindsOf 15 = .ok (.iconst 1, 1) := by decide +kernel
theorem dX12_kindsOf_16 : decode cX12_kindsOf 16 = .ok (.aload_n 0, 1) := by decide +kernel
theorem dX12_kindsOf_17 : decode cX12_kindsOf 17 = .ok (.getfield 50, 3) := by decide +kernel
theorem dX12_kindsOf_20 : decode cX12_kindsOf 20 = .ok (.iload_n 1, 1) := by decide +kernel
theorem dX12_kindsOf_21 : decode cX12_kindsOf 21 = .ok (.iload_n 3, 1) := by decide +kernel
theorem dX12_kindsOf_22 : decode cX12_kindsOf 22 = .ok (.invokestatic 244, 3) := by decide +kernel
theorem dX12_kindsOf_25 : decode cX12_kindsOf 25 = .ok (.iaload, 1) := by decide +kernel
theorem dX12_kindsOf_26 : decode cX12_kindsOf 26 = .ok (.ishl, 1) := by decide +kernel
theorem dX12_kindsOf_27 : decode cX12_kindsOf 27 = .ok (.ior, 1) := by decide +kernel
theorem dX12_kindsOf_28 : decode cX12_kindsOf 28 = .ok (.istore_n 2, 1) := by decide +kernel
theorem dX12_kindsOf_29 : decode cX12_kindsOf 29 = .ok (.iinc 3 1, 3) := by decide +kernel
theorem dX12_kindsOf_32 : decode cX12_kindsOf 32 = .ok (.goto (-28), 3) := by decide +kernel
theorem dX12_kindsOf_35 : decode cX12_kindsOf 35 = .ok (.iload_n 2, 1) := by decide +kernel
theorem dX12_kindsOf_36 : decode cX12_kindsOf 36 = .ok (.ireturn, 1) := by decide +kernel
theorem dX12_about_0 : decode cX12_about 0 = .ok (.aload_n 0, 1) := by decide +kernel
theorem dX12_about_1 : decode cX12_about 1 = .ok (.iconst 0, 1) := by decide +kernel
theorem dX12_about_2 : decode cX12_about 2 = .ok (.putfield 158, 3) := by decide +kernel
theorem dX12_about_5 : decode cX12_about 5 = .ok (.iload_n 1, 1) := by decide +kernel
theorem dX12_about_6 : decode cX12_about 6 = .ok (.invokestatic 165, 3) := by decide +kernel
theorem dX12_about_9 : decode cX12_about 9 = .ok (.ifCond .ne 9, 3) := by decide +kernel
theorem dX12_about_12 : decode cX12_about 12 = .ok (.aload_n 0, 1) := by decide +kernel
theorem dX12_about_13 : decode cX12_about 13 = .ok (.iconst 1, 1) := by decide +kernel
theorem dX12_about_14 : decode cX12_about 14 = .ok (.invokevirtual 263, 3) := by decide +kernel
theorem dX12_about_17 : decode cX12_about 17 = .ok (.ireturn, 1) := by decide +kernel
theorem dX12_about_18 : decode cX12_about 18 = .ok (.iload_n 2, 1) := by decide +kernel
theorem dX12_about_19 : decode cX12_about 19 = .ok (.tableswitch 96 0 6 #[41, 48, 55, 62, 69, 83, 90], 41) := by decide +kernel
theorem dX12_about_60 : decode cX12_about 60 = .ok (.aload_n 0, 1) := by decide +kernel
theorem dX12_about_61 : decode cX12_about 61 = .ok (.getfield 32, 3) := by decide +kernel
theorem dX12_about_64 : decode cX12_about 64 = .ok (.iload_n 1, 1) := by decide +kernel
theorem dX12_about_65 : decode cX12_about 65 = .ok (.iaload, 1) := by decide +kernel
theorem dX12_about_66 : decode cX12_about 66 = .ok (.ireturn, 1) := by decide +kernel
theorem dX12_about_67 : decode cX12_about 67 = .ok (.aload_n 0, 1) := by decide +kernel
theorem dX12_about_68 : decode cX12_about 68 = .ok (.getfield 36, 3) := by decide +kernel
theorem dX12_about_71 : decode cX12_about 71 = .ok (.iload_n 1, 1) := by decide +kernel
theorem dX12_about_72 : decode cX12_about 72 = .ok (.iaload, 1) := by decide +kernel
theorem dX12_about_73 : decode cX12_about 73 = .ok (.ireturn, 1) := by decide +kernel
theorem dX12_about_74 : decode cX12_about 74 = .ok (.aload_n 0, 1) := by decide +kernel
theorem dX12_about_75 : decode cX12_about 75 = .ok (.getfield 44, 3) := by decide +kernel
theorem dX12_about_78 : decode cX12_about 78 = .ok (.iload_n 1, 1) := by decide +kernel
theorem dX12_about_79 : decode cX12_about 79 = .ok (.iaload, 1) := by decide +kernel
theorem dX12_about_80 : decode cX12_about 80 = .ok (.ireturn, 1) := by decide +kernel
theorem dX12_about_81 : decode cX12_about 81 = .ok (.aload_n 0, 1) := by decide +kernel
theorem dX12_about_82 : decode cX12_about 82 = .ok (.getfield 39, 3) := by decide +kernel
theorem dX12_about_85 : decode cX12_about 85 = .ok (.iload_n 1, 1) := by decide +kernel
theorem dX12_about_86 : decode cX12_about 86 = .ok (.iaload, 1) := by decide +kernel
theorem dX12_about_87 : decode cX12_about 87 = .ok (.ireturn, 1) := by decide +kernel
theorem dX12_about_88 : decode cX12_about 88 = .ok (.aload_n 0, 1) := by decide +kernel
theorem dX12_about_89 : decode cX12_about 89 = .ok (.iload_n 1, 1) := by decide +kernel
theorem dX12_about_90 : decode cX12_about 90 = .ok (.invokevirtual 288, 3) := by decide +kernel
theorem dX12_about_93 : decode cX12_about 93 = .ok (.ifCond .eq 7, 3) := by decide +kernel
theorem dX12_about_96 : decode cX12_about 96 = .ok (.iconst 1, 1) := by decide +kernel
theorem dX12_about_97 : decode cX12_about 97 = .ok (.goto 4, 3) := by decide +kernel
theorem dX12_about_100 : decode cX12_about 100 = .ok (.iconst 0, 1) := by decide +kernel
theorem dX12_about_101 : decode cX12_about 101 = .ok (.ireturn, 1) := by decide +kernel
theorem dX12_about_102 : decode cX12_about 102 = .ok (.aload_n 0, 1) := by decide +kernel
theorem dX12_about_103 : decode cX12_about 103 = .ok (.getfield 41, 3) := by decide +kernel
theorem dX12_about_106 : decode cX12_about 106 = .ok (.iload_n 1, 1) := by decide +kernel
theorem dX12_about_107 : decode cX12_about 107 = .ok (.iaload, 1) := by decide +kernel
theorem dX12_about_108 : decode cX12_about 108 = .ok (.ireturn, 1) := by decide +kernel
theorem dX12_about_109 : decode cX12_about 109 = .ok (.aload_n 0, 1) := by decide +kernel
theorem dX12_about_110 : decode cX12_about 110 = .ok (.iload_n 1, 1) := by decide +kernel
theorem dX12_about_111 : decode cX12_about 111 = .ok (.invokevirtual 291, 3) := by decide +kernel
theorem dX12_about_114 : decode cX12_about 114 = .ok (.ireturn, 1) := by decide +kernel
theorem dX12_about_115 : decode cX12_about 115 = .ok (.aload_n 0, 1) := by decide +kernel
theorem dX12_about_116 : decode cX12_about 116 = .ok (.iconst 1, 1) := by decide +kernel
theorem dX12_about_117 : decode cX12_about 117 = .ok (.invokevirtual 263, 3) := by decide +kernel
theorem dX12_about_120 : decode cX12_about 120 = .ok (.ireturn, 1) := by decide +kernel
theorem dX12_leaf_0 : decode cX12_leaf 0 = .ok (.aload_n 0, 1) := by decide +kernel
theorem dX12_leaf_1 : decode cX12_leaf 1 = .ok (.iconst 0, 1) := by decide +kernel
theorem dX12_leaf_2 : decode cX12_leaf 2 = .ok (.putfield 158, 3) := by decide +kernel
theorem dX12_leaf_5 : decode cX12_leaf 5 = .ok (.aload_n 0, 1) := by decide +kernel
theorem dX12_leaf_6 : decode cX12_leaf 6 = .ok (.iload_n 1, 1) := by decide +kernel
theorem dX12_leaf_7 : decode cX12_leaf 7 = .ok (.iload_n 2, 1) := by decide +kernel
theorem dX12_leaf_8 : decode cX12_leaf 8 = .ok (.invokevirtual 294, 3) := by decide +kernel
theorem dX12_leaf_11 : decode cX12_leaf 11 = .ok (.ifCond .ne 9, 3) := by decide +kernel
theorem dX12_leaf_14 : decode cX12_leaf 14 = .ok (.aload_n 0, 1) := by decide +kernel
theorem dX12_leaf_15 : decode cX12_leaf 15 = .ok (.iconst 1, 1) := by decide +kernel
theorem dX12_leaf_16 : decode cX12_leaf 16 = .ok (.invokevirtual 263, 3) := by decide +kernel
theorem dX12_leaf_19 : decode cX12_leaf 19 = .ok (.ireturn, 1) := by decide +kernel
theorem dX12_leaf_20 : decode cX12_leaf 20 = .ok (.iload_n 1, 1) := by decide +kernel
theorem dX12_leaf_21 : decode cX12_leaf 21 = .ok (.iload_n 2, 1) := by decide +kernel
theorem dX12_leaf_22 : decode cX12_leaf 22 = .ok (.invokestatic 244, 3) := by decide +kernel
theorem dX12_leaf_25 : decode cX12_leaf 25 = .ok (.istore 4, 2) := by decide +kernel
theorem dX12_leaf_27 : decode cX12_leaf 27 = .ok (.iload_n 3, 1) := by decide +kernel
theorem dX12_leaf_28 : decode cX12_leaf 28 = .ok (.tableswitch 88 0 5 #[40, 48, 56, 64, 72, 80], 40) := by decide +kernel
theorem dX12_leaf_68 : decode cX12_leaf 68 = .ok (.aload_n 0, 1) := by decide +kernel
theorem dX12_leaf_69 : decode cX12_leaf 69 = .ok (.getfield 50, 3) := by decide +kernel
theorem dX12_leaf_72 : decode cX12_leaf 72 = .ok (.iload 4, 2) := by decide +kernel
theorem dX12_leaf_74 : decode cX12_leaf 74 = .ok (.iaload, 1) := by decide +kernel
theorem dX12_leaf_75 : decode cX12_leaf 75 = .ok (.ireturn, 1) := by decide +kernel
theorem dX12_leaf_76 : decode cX12_leaf 76 = .ok (.aload_n 0, 1) := by decide +kernel
theorem dX12_leaf_77 : decode cX12_leaf 77 = .ok (.getfield 53, 3) := by decide +kernel
theorem dX12_leaf_80 : decode cX12_leaf 80 = .ok (.iload 4, 2) := by decide +kernel
theorem dX12_leaf_82 : decode cX12_leaf 82 = .ok (.iaload, 1) := by decide +kernel
theorem dX12_leaf_83 : decode cX12_leaf 83 = .ok (.ireturn, 1) := by decide +kernel
theorem dX12_leaf_84 : decode cX12_leaf 84 = .ok (.aload_n 0, 1) := by decide +kernel
theorem dX12_leaf_85 : decode cX12_leaf 85 = .ok (.getfield 55, 3) := by decide +kernel
theorem dX12_leaf_88 : decode cX12_leaf 88 = .ok (.iload 4, 2) := by decide +kernel
theorem dX12_leaf_90 : decode cX12_leaf 90 = .ok (.iaload, 1) := by decide +kernel
theorem dX12_leaf_91 : decode cX12_leaf 91 = .ok (.ireturn, 1) := by decide +kernel
theorem dX12_leaf_92 : decode cX12_leaf 92 = .ok (.aload_n 0, 1) := by decide +kernel
theorem dX12_leaf_93 : decode cX12_leaf 93 = .ok (.getfield 58, 3) := by decide +kernel
theorem dX12_leaf_96 : decode cX12_leaf 96 = .ok (.iload 4, 2) := by decide +kernel
theorem dX12_leaf_98 : decode cX12_leaf 98 = .ok (.iaload, 1) := by decide +kernel
theorem dX12_leaf_99 : decode cX12_leaf 99 = .ok (.ireturn, 1) := by decide +kernel
theorem dX12_leaf_100 : decode cX12_leaf 100 = .ok (.aload_n 0, 1) := by decide +kernel
theorem dX12_leaf_101 : decode cX12_leaf 101 = .ok (.getfield 61, 3) := by decide +kernel
theorem dX12_leaf_104 : decode cX12_leaf 104 = .ok (.iload 4, 2) := by decide +kernel
theorem dX12_leaf_106 : decode cX12_leaf 106 = .ok (.iaload, 1) := by decide +kernel
theorem dX12_leaf_107 : decode cX12_leaf 107 = .ok (.ireturn, 1) := by decide +kernel
theorem dX12_leaf_108 : decode cX12_leaf 108 = .ok (.aload_n 0, 1) := by decide +kernel
theorem dX12_leaf_109 : decode cX12_leaf 109 = .ok (.getfield 64, 3) := by decide +kernel
theorem dX12_leaf_112 : decode cX12_leaf 112 = .ok (.iload 4, 2) := by decide +kernel
theorem dX12_leaf_114 : decode cX12_leaf 114 = .ok (.iaload, 1) := by decide +kernel
theorem dX12_leaf_115 : decode cX12_leaf 115 = .ok (.ireturn, 1) := by decide +kernel
theorem dX12_leaf_116 : decode cX12_leaf 116 = .ok (.aload_n 0, 1) := by decide +kernel
theorem dX12_leaf_117 : decode cX12_leaf 117 = .ok (.iconst 1, 1) := by decide +kernel
theorem dX12_leaf_118 : decode cX12_leaf 118 = .ok (.invokevirtual 263, 3) := by decide +kernel
theorem dX12_leaf_121 : decode cX12_leaf 121 = .ok (.ireturn, 1) := by decide +kernel
theorem dX12_turningsOf_0 : decode cX12_turningsOf 0 = .ok (.aload_n 0, 1) := by decide +kernel
theorem dX12_turningsOf_1 : decode cX12_turningsOf 1 = .ok (.getfield 90, 3) := by decide +kernel
theorem dX12_turningsOf_4 : decode cX12_turningsOf 4 = .ok (.bipush 12, 2) := by decide +kernel
theorem dX12_turningsOf_6 : decode cX12_turningsOf 6 = .ok (.iload_n 1, 1) := by decide +kernel
theorem dX12_turningsOf_7 : decode cX12_turningsOf 7 = .ok (.imul, 1) := by decide +kernel
theorem dX12_turningsOf_8 : decode cX12_turningsOf 8 = .ok (.iload_n 2, 1) := by decide +kernel
theorem dX12_turningsOf_9 : decode cX12_turningsOf 9 = .ok (.iadd, 1) := by decide +kernel
theorem dX12_turningsOf_10 : decode cX12_turningsOf 10 = .ok (.iaload, 1) := by decide +kernel
theorem dX12_turningsOf_11 : decode cX12_turningsOf 11 = .ok (.istore 4, 2) := by decide +kernel
theorem dX12_turningsOf_13 : decode cX12_turningsOf 13 = .ok (.iload 4, 2) := by decide +kernel
theorem dX12_turningsOf_15 : decode cX12_turningsOf 15 = .ok (.iconst (-1), 1) := by decide +kernel
theorem dX12_turningsOf_16 : decode cX12_turningsOf 16 = .ok (.if_icmp .ne 7, 3) := by decide +kernel
theorem dX12_turningsOf_19 : decode cX12_turningsOf 19 = .ok (.iconst 0, 1) := by decide +kernel
theorem dX12_turningsOf_20 : decode cX12_turningsOf 20 = .ok (.goto 29, 3) := by decide +kernel
theorem dX12_turningsOf_23 : decode cX12_turningsOf 23 = .ok (.iconst 0, 1) := by decide +kernel
theorem dX12_turningsOf_24 : decode cX12_turningsOf 24 = .ok (.iload 4, 2) := by decide +kernel
theorem dX12_turningsOf_26 : decode cX12_turningsOf 26 = .ok (.bipush 100, 2) := by decide +kernel
theorem dX12_turningsOf_28 : decode cX12_turningsOf 28 = .ok (.aload_n 0, 1) := by decide +kernel
theorem dX12_turningsOf_29 : decode cX12_turningsOf 29 = .ok (.getfield 93, 3) := by decide +kernel
theorem dX12_turningsOf_32 : decode cX12_turningsOf 32 = .ok (.bipush 12, 2) := by decide +kernel
theorem dX12_turningsOf_34 : decode cX12_turningsOf 34 = .ok (.iload_n 1, 1) := by decide +kernel
theorem dX12_turningsOf_35 : decode cX12_turningsOf 35 = .ok (.imul, 1) := by decide +kernel
theorem dX12_turningsOf_36 : decode cX12_turningsOf 36 = .ok (.iload_n 2, 1) := by decide +kernel
theorem dX12_turningsOf_37 : decode cX12_turningsOf 37 = .ok (.iadd, 1) := by decide +kernel
theorem dX12_turningsOf_38 : decode cX12_turningsOf 38 = .ok (.iaload, 1) := by decide +kernel
theorem dX12_turningsOf_39 : decode cX12_turningsOf 39 = .ok (.iload_n 3, 1) := by decide +kernel
theorem dX12_turningsOf_40 : decode cX12_turningsOf 40 = .ok (.imul, 1) := by decide +kernel
theorem dX12_turningsOf_41 : decode cX12_turningsOf 41 = .ok (.isub, 1) := by decide +kernel
theorem dX12_turningsOf_42 : decode cX12_turningsOf 42 = .ok (.imul, 1) := by decide +kernel
theorem dX12_turningsOf_43 : decode cX12_turningsOf 43 = .ok (.bipush 100, 2) := by decide +kernel
theorem dX12_turningsOf_45 : decode cX12_turningsOf 45 = .ok (.idiv, 1) := by decide +kernel
theorem dX12_turningsOf_46 : decode cX12_turningsOf 46 = .ok (.invokestatic 298, 3) := by decide +kernel
theorem dX12_turningsOf_49 : decode cX12_turningsOf 49 = .ok (.ireturn, 1) := by decide +kernel
theorem dX12_turnings_0 : decode cX12_turnings 0 = .ok (.aload_n 0, 1) := by decide +kernel
theorem dX12_turnings_1 : decode cX12_turnings 1 = .ok (.iconst 0, 1) := by decide +kernel
theorem dX12_turnings_2 : decode cX12_turnings 2 = .ok (.putfield 158, 3) := by decide +kernel
theorem dX12_turnings_5 : decode cX12_turnings 5 = .ok (.iload_n 1, 1) := by decide +kernel
theorem dX12_turnings_6 : decode cX12_turnings 6 = .ok (.invokestatic 279, 3) := by decide +kernel
theorem dX12_turnings_9 : decode cX12_turnings 9 = .ok (.ifCond .eq 33, 3) := by decide +kernel
theorem dX12_turnings_12 : decode cX12_turnings 12 = .ok (.iload_n 2, 1) := by decide +kernel
theorem dX12_turnings_13 : decode cX12_turnings 13 = .ok (.iconst 0, 1) := by decide +kernel
theorem dX12_turnings_14 : decode cX12_turnings 14 = .ok (.bipush 11, 2) := by decide +kernel
theorem dX12_turnings_16 : decode cX12_turnings 16 = .ok (.invokestatic 161, 3) := by decide +kernel
theorem dX12_turnings_19 : decode cX12_turnings 19 = .ok (.ifCond .eq 23, 3) := by decide +kernel
theorem dX12_turnings_22 : decode cX12_turnings 22 = .ok (.iload_n 3, 1) := by decide +kernel
theorem dX12_turnings_23 : decode cX12_turnings 23 = .ok (.iconst 0, 1) := by decide +kernel
theorem dX12_turnings_24 : decode cX12_turnings 24 = .ok (.bipush 19, 2) := by decide +kernel
theorem dX12_turnings_26 : decode cX12_turnings 26 = .ok (.invokestatic 161, 3) := by decide +kernel
theorem dX12_turnings_29 : decode cX12_turnings 29 = .ok (.ifCond .eq 13, 3) := by decide +kernel
theorem dX12_turnings_32 : decode cX12_turnings 32 = .ok (.aload_n 0, 1) := by decide +kernel
theorem dX12_turnings_33 : decode cX12_turnings 33 = .ok (.iload_n 1, 1) := by decide +kernel
theorem dX12_turnings_34 : decode cX12_turnings 34 = .ok (.iload_n 2, 1) := by decide +kernel
theorem dX12_turnings_35 : decode cX12_turnings 35 = .ok (.iload_n 3, 1) := by decide +kernel
theorem dX12_turnings_36 : decode cX12_turnings 36 = .ok (.invokevirtual 301, 3) := by decide +kernel
theorem dX12_turnings_39 : decode cX12_turnings 39 = .ok (.goto 8, 3) := by decide +kernel
theorem dX12_turnings_42 : decode cX12_turnings 42 = .ok (.aload_n 0, 1) := by decide +kernel
theorem dX12_turnings_43 : decode cX12_turnings 43 = .ok (.iconst 1, 1) := by decide +kernel
theorem dX12_turnings_44 : decode cX12_turnings 44 = .ok (.invokevirtual 263, 3) := by decide +kernel
theorem dX12_turnings_47 : decode cX12_turnings 47 = .ok (.ireturn, 1) := by decide +kernel
theorem dX12_reader_0 : decode cX12_reader 0 = .ok (.aload_n 0, 1) := by decide +kernel
theorem dX12_reader_1 : decode cX12_reader 1 = .ok (.iconst 0, 1) := by decide +kernel
theorem dX12_reader_2 : decode cX12_reader 2 = .ok (.putfield 158, 3) := by decide +kernel
theorem dX12_reader_5 : decode cX12_reader 5 = .ok (.iload_n 1, 1) := by decide +kernel
theorem dX12_reader_6 : decode cX12_reader 6 = .ok (.invokestatic 165, 3) := by decide +kernel
theorem dX12_reader_9 : decode cX12_reader 9 = .ok (.ifCond .eq 10, 3) := by decide +kernel
theorem dX12_reader_12 : decode cX12_reader 12 = .ok (.iload_n 2, 1) := by decide +kernel
theorem dX12_reader_13 : decode cX12_reader 13 = .ok (.invokestatic 279, 3) := by decide +kernel
theorem dX12_reader_16 : decode cX12_reader 16 = .ok (.ifCond .ne 9, 3) := by decide +kernel
theorem dX12_reader_19 : decode cX12_reader 19 = .ok (.aload_n 0, 1) := by decide +kernel
theorem dX12_reader_20 : decode cX12_reader 20 = .ok (.iconst 1, 1) := by decide +kernel
theorem dX12_reader_21 : decode cX12_reader 21 = .ok (.invokevirtual 263, 3) := by decide +kernel
theorem dX12_reader_24 : decode cX12_reader 24 = .ok (.ireturn, 1) := by decide +kernel
theorem dX12_reader_25 : decode cX12_reader 25 = .ok (.aload_n 0, 1) := by decide +kernel
theorem dX12_reader_26 : decode cX12_reader 26 = .ok (.getfield 44, 3) := by decide +kernel
theorem dX12_reader_29 : decode cX12_reader 29 = .ok (.iload_n 1, 1) := by decide +kernel
theorem dX12_reader_30 : decode cX12_reader 30 = .ok (.iaload, 1) := by decide +kernel
theorem dX12_reader_31 : decode cX12_reader 31 = .ok (.bipush 8, 2) := by decide +kernel
theorem dX12_reader_33 : decode cX12_reader 33 = .ok (.if_icmp .eq 21, 3) := by decide +kernel
theorem dX12_reader_36 : decode cX12_reader 36 = .ok (.iload_n 3, 1) := by decide +kernel
theorem dX12_reader_37 : decode cX12_reader 37 = .ok (.ifCond .lt 17, 3) := by decide +kernel
theorem dX12_reader_40 : decode cX12_reader 40 = .ok (.iload 4, 2) := by decide +kernel
theorem dX12_reader_42 : decode cX12_reader 42 = .ok (.sipush 500, 3) := by decide +kernel
theorem dX12_reader_45 : decode cX12_reader 45 = .ok (.if_icmp .gt 9, 3) := by decide +kernel
theorem dX12_reader_48 : decode cX12_reader 48 = .ok (.iload_n 3, 1) := by decide +kernel
theorem dX12_reader_49 : decode cX12_reader 49 = .ok (.iload 4, 2) := by decide +kernel
theorem dX12_reader_51 : decode cX12_reader 51 = .ok (.if_icmp .le 15, 3) := by decide +kernel
theorem dX12_reader_54 : decode cX12_reader 54 = .ok (.aload_n 0, 1) := by decide +kernel
theorem dX12_reader_55 : decode cX12_reader 55 = .ok (.getfield 96, 3) := by decide +kernel
theorem dX12_reader_58 : decode cX12_reader 58 = .ok (.iconst 2, 1) := by decide +kernel
theorem dX12_reader_59 : decode cX12_reader 59 = .ok (.dup2, 1) := by decide +kernel
theorem dX12_reader_60 : decode cX12_reader 60 = .ok (.iaload, 1) := by decide +kernel
theorem dX12_reader_61 : decode cX12_reader 61 = .ok (.iconst 1, 1) := by decide +kernel
theorem dX12_reader_62 : decode cX12_reader 62 = .ok (.iadd, 1) := by decide +kernel
theorem dX12_reader_63 : decode cX12_reader 63 = .ok (.iastore, 1) := by decide +kernel
theorem dX12_reader_64 : decode cX12_reader 64 = .ok (.iconst (-1), 1) := by decide +kernel
theorem dX12_reader_65 : decode cX12_reader 65 = .ok (.ireturn, 1) := by decide +kernel
theorem dX12_reader_66 : decode cX12_reader 66 = .ok (.bipush 8, 2) := by decide +kernel
theorem dX12_reader_68 : decode cX12_reader 68 = .ok (.iload_n 1, 1) := by decide +kernel
theorem dX12_reader_69 : decode cX12_reader 69 = .ok (.imul, 1) := by decide +kernel
theorem dX12_reader_70 : decode cX12_reader 70 = .ok (.aload_n 0, 1) := by decide +kernel
theorem dX12_reader_71 : decode cX12_reader 71 = .ok (.getfield 44, 3) := by decide +kernel
theorem dX12_reader_74 : decode cX12_reader 74 = .ok (.iload_n 1, 1) := by decide +kernel
theorem dX12_reader_75 : decode cX12_reader 75 = .ok (.iaload, 1) := by decide +kernel
theorem dX12_reader_76 : decode cX12_reader 76 = .ok (.iadd, 1) := by decide +kernel
theorem dX12_reader_77 : decode cX12_reader 77 = .ok (.istore 5, 2) := by decide +kernel
theorem dX12_reader_79 : decode cX12_reader 79 = .ok (.aload_n 0, 1) := by decide +kernel
theorem dX12_reader_80 : decode cX12_reader 80 = .ok (.getfield 78, 3) := by decide +kernel
theorem dX12_reader_83 : decode cX12_reader 83 = .ok (.iload 5, 2) := by decide +kernel
theorem dX12_reader_85 : decode cX12_reader 85 = .ok (.iload_n 2, 1) := by decide +kernel
theorem dX12_reader_86 : decode cX12_reader 86 = .ok (.iastore, 1) := by decide +kernel
theorem dX12_reader_87 : decode cX12_reader 87 = .ok (.aload_n 0, 1) := by decide +kernel
theorem dX12_reader_88 : decode cX12_reader 88 = .ok (.getfield 81, 3) := by decide +kernel
theorem dX12_reader_91 : decode cX12_reader 91 = .ok (.iload 5, 2) := by decide +kernel
theorem dX12_reader_93 : decode cX12_reader 93 = .ok (.iload_n 3, 1) := by decide +kernel
theorem dX12_reader_94 : decode cX12_reader 94 = .ok (.iastore, 1) := by decide +kernel
theorem dX12_reader_95 : decode cX12_reader 95 = .ok (.aload_n 0, 1) := by decide +kernel
theorem dX12_reader_96 : decode cX12_reader 96 = .ok (.getfield 84, 3) := by decide +kernel
theorem dX12_reader_99 : decode cX12_reader 99 = .ok (.iload 5, 2) := by decide +kernel
theorem dX12_reader_101 : decode cX12_reader 101 = .ok (.iload 4, 2) := by decide +kernel
theorem dX12_reader_103 : decode cX12_reader 103 = .ok (.iastore, 1) := by decide +kernel
theorem dX12_reader_104 : decode cX12_reader 104 = .ok (.aload_n 0, 1) := by decide +kernel
theorem dX12_reader_105 : decode cX12_reader 105 = .ok (.getfield 44, 3) := by decide +kernel
theorem dX12_reader_108 : decode cX12_reader 108 = .ok (.iload_n 1, 1) := by decide +kernel
theorem dX12_reader_109 : decode cX12_reader 109 = .ok (.dup2, 1) := by decide +kernel
theorem dX12_reader_110 : decode cX12_reader 110 = .ok (.iaload, 1) := by decide +kernel
theorem dX12_reader_111 : decode cX12_reader 111 = .ok (.iconst 1, 1) := by decide +kernel
theorem dX12_reader_112 : decode cX12_reader 112 = .ok (.iadd, 1) := by decide +kernel
theorem dX12_reader_113 : decode cX12_reader 113 = .ok (.iastore, 1) := by decide +kernel
theorem dX12_reader_114 : decode cX12_reader 114 = .ok (.aload_n 0, 1) := by decide +kernel
theorem dX12_reader_115 : decode cX12_reader 115 = .ok (.getfield 44, 3) := by decide +kernel
theorem dX12_reader_118 : decode cX12_reader 118 = .ok (.iload_n 1, 1) := by decide +kernel
theorem dX12_reader_119 : decode cX12_reader 119 = .ok (.iaload, 1) := by decide +kernel
theorem dX12_reader_120 : decode cX12_reader 120 = .ok (.ireturn, 1) := by decide +kernel
theorem dX12_gone_0 : decode cX12_gone 0 = .ok (.aload_n 0, 1) := by decide +kernel
theorem dX12_gone_1 : decode cX12_gone 1 = .ok (.iconst 0, 1) := by decide +kernel
theorem dX12_gone_2 : decode cX12_gone 2 = .ok (.putfield 158, 3) := by decide +kernel
theorem dX12_gone_5 : decode cX12_gone 5 = .ok (.iload_n 1, 1) := by decide +kernel
theorem dX12_gone_6 : decode cX12_gone 6 = .ok (.invokestatic 165, 3) := by decide +kernel
theorem dX12_gone_9 : decode cX12_gone 9 = .ok (.ifCond .ne 9, 3) := by decide +kernel
theorem dX12_gone_12 : decode cX12_gone 12 = .ok (.aload_n 0, 1) := by decide +kernel
theorem dX12_gone_13 : decode cX12_gone 13 = .ok (.iconst 1, 1) := by decide +kernel
theorem dX12_gone_14 : decode cX12_gone 14 = .ok (.invokevirtual 263, 3) := by decide +kernel
theorem dX12_gone_17 : decode cX12_gone 17 = .ok (.ireturn, 1) := by decide +kernel
theorem dX12_gone_18 : decode cX12_gone 18 = .ok (.aload_n 0, 1) := by decide +kernel
theorem dX12_gone_19 : decode cX12_gone 19 = .ok (.getfield 44, 3) := by decide +kernel
theorem dX12_gone_22 : decode cX12_gone 22 = .ok (.iload_n 1, 1) := by decide +kernel
theorem dX12_gone_23 : decode cX12_gone 23 = .ok (.iaload, 1) := by decide +kernel
theorem dX12_gone_24 : decode cX12_gone 24 = .ok (.ifCond .ne 5, 3) := by decide +kernel
theorem dX12_gone_27 : decode cX12_gone 27 = .ok (.iconst (-1), 1) := by decide +kernel
theorem dX12_gone_28 : decode cX12_gone 28 = .ok (.ireturn, 1) := by decide +kernel
theorem dX12_gone_29 : decode cX12_gone 29 = .ok (.aload_n 0, 1) := by decide +kernel
theorem dX12_gone_30 : decode cX12_gone 30 = .ok (.getfield 44, 3) := by decide +kernel
theorem dX12_gone_33 : decode cX12_gone 33 = .ok (.iload_n 1, 1) := by decide +kernel
theorem dX12_gone_34 : decode cX12_gone 34 = .ok (.dup2, 1) := by decide +kernel
theorem dX12_gone_35 : decode cX12_gone 35 = .ok (.iaload, 1) := by decide +kernel
theorem dX12_gone_36 : decode cX12_gone 36 = .ok (.iconst 1, 1) := by decide +kernel
theorem dX12_gone_37 : decode cX12_gone 37 = .ok (.isub, 1) := by decide +kernel
theorem dX12_gone_38 : decode cX12_gone 38 = .ok (.iastore, 1) := by decide +kernel
theorem dX12_gone_39 : decode cX12_gone 39 = .ok (.aload_n 0, 1) := by decide +kernel
theorem dX12_gone_40 : decode cX12_gone 40 = .ok (.getfield 44, 3) := by decide +kernel
theorem dX12_gone_43 : decode cX12_gone 43 = .ok (.iload_n 1, 1) := by decide +kernel
theorem dX12_gone_44 : decode cX12_gone 44 = .ok (.iaload, 1) := by decide +kernel
theorem dX12_gone_45 : decode cX12_gone 45 = .ok (.ireturn, 1) := by decide +kernel
theorem dX12_turningsIn_0 : decode cX12_turningsIn 0 = .ok (.iload_n 1, 1) := by decide +kernel
theorem dX12_turningsIn_1 : decode cX12_turningsIn 1 = .ok (.iload_n 2, 1) := by decide +kernel
theorem dX12_turningsIn_2 : decode cX12_turningsIn 2 = .ok (.invokestatic 244, 3) := by decide +kernel
theorem dX12_turningsIn_5 : decode cX12_turningsIn 5 = .ok (.istore 4, 2) := by decide +kernel
theorem dX12_turningsIn_7 : decode cX12_turningsIn 7 = .ok (.iconst 0, 1) := by decide +kernel
theorem dX12_turningsIn_8 : decode cX12_turningsIn 8 = .ok (.istore 5, 2) := by decide +kernel
theorem dX12_turningsIn_10 : decode cX12_turningsIn 10 = .ok (.bipush 8, 2) := by decide +kernel
theorem dX12_turningsIn_12 : decode cX12_turningsIn 12 = .ok (.iload_n 1, 1) := by decide +kernel
theorem dX12_turningsIn_13 : decode cX12_turningsIn 13 = .ok (.imul, 1) := by decide +kernel
theorem dX12_turningsIn_14 : decode cX12_turningsIn 14 = .ok (.istore 6, 2) := by decide +kernel
theorem dX12_turningsIn_16 : decode cX12_turningsIn 16 = .ok (.iload 6, 2) := by decide +kernel
theorem dX12_turningsIn_18 : decode cX12_turningsIn 18 = .ok (.bipush 8, 2) := by decide +kernel
theorem dX12_turningsIn_20 : decode cX12_turningsIn 20 = .ok (.iload_n 1, 1) := by decide +kernel
theorem dX12_turningsIn_21 : decode cX12_turningsIn 21 = .ok (.imul, 1) := by decide +kernel
theorem dX12_turningsIn_22 : decode cX12_turningsIn 22 = .ok (.aload_n 0, 1) := by decide +kernel
theorem dX12_turningsIn_23 : decode cX12_turningsIn 23 = .ok (.getfield 44, 3) := by decide +kernel
theorem dX12_turningsIn_26 : decode cX12_turningsIn 26 = .ok (.iload_n 1, 1) := by decide +kernel
theorem dX12_turningsIn_27 : decode cX12_turningsIn 27 = .ok (.iaload, 1) := by decide +kernel
theorem dX12_turningsIn_28 : decode cX12_turningsIn 28 = .ok (.iadd, 1) := by decide +kernel
theorem dX12_turningsIn_29 : decode cX12_turningsIn 29 = .ok (.if_icmp .ge 71, 3) := by decide +kernel
theorem dX12_turningsIn_32 : decode cX12_turningsIn 32 = .ok (.iload_n 3, 1) := by decide +kernel
theorem dX12_turningsIn_33 : decode cX12_turningsIn 33 = .ok (.aload_n 0, 1) := by decide +kernel
theorem dX12_turningsIn_34 : decode cX12_turningsIn 34 = .ok (.getfield 81, 3) := by decide +kernel
theorem dX12_turningsIn_37 : decode cX12_turningsIn 37 = .ok (.iload 6, 2) := by decide +kernel
theorem dX12_turningsIn_39 : decode cX12_turningsIn 39 = .ok (.iaload, 1) := by decide +kernel
theorem dX12_turningsIn_40 : decode cX12_turningsIn 40 = .ok (.aload_n 0, 1) := by decide +kernel
theorem dX12_turningsIn_41 : decode cX12_turningsIn 41 = .ok (.getfield 84, 3) := by decide +kernel
theorem dX12_turningsIn_44 : decode cX12_turningsIn 44 = .ok (.iload 6, 2) := by decide +kernel
theorem dX12_turningsIn_46 : decode cX12_turningsIn 46 = .ok (.iaload, 1) := by decide +kernel
theorem dX12_turningsIn_47 : decode cX12_turningsIn 47 = .ok (.invokestatic 161, 3) := by decide +kernel
theorem dX12_turningsIn_50 : decode cX12_turningsIn 50 = .ok (.ifCond .eq 44, 3) := by decide +kernel
theorem dX12_turningsIn_53 : decode cX12_turningsIn 53 = .ok (.aload_n 0, 1) := by decide +kernel
theorem dX12_turningsIn_54 : decode cX12_turningsIn 54 = .ok (.getfield 61, 3) := by decide +kernel
theorem dX12_turningsIn_57 : decode cX12_turningsIn 57 = .ok (.iload 4, 2) := by decide +kernel
theorem dX12_turningsIn_59 : decode cX12_turningsIn 59 = .ok (.iaload, 1) := by decide +kernel
theorem dX12_turningsIn_60 : decode cX12_turningsIn 60 = .ok (.iload_n 3, 1) := by decide +kernel
theorem dX12_turningsIn_61 : decode cX12_turningsIn 61 = .ok (.if_icmp .gt 33, 3) := by decide +kernel
theorem dX12_turningsIn_64 : decode cX12_turningsIn 64 = .ok (.iload 5, 2) := by decide +kernel
theorem dX12_turningsIn_66 : decode cX12_turningsIn 66 = .ok (.aload_n 0, 1) := by decide +kernel
theorem dX12_turningsIn_67 : decode cX12_turningsIn 67 = .ok (.aload_n 0, 1) := by decide +kernel
theorem dX12_turningsIn_68 : decode cX12_turningsIn 68 = .ok (.getfield 78, 3) := by decide +kernel
theorem dX12_turningsIn_71 : decode cX12_turningsIn 71 = .ok (.iload 6, 2) := by decide +kernel
theorem dX12_turningsIn_73 : decode cX12_turningsIn 73 = .ok (.iaload, 1) := by decide +kernel
theorem dX12_turningsIn_74 : decode cX12_turningsIn 74 = .ok (.aload_n 0, 1) := by decide +kernel
theorem dX12_turningsIn_75 : decode cX12_turningsIn 75 = .ok (.getfield 50, 3) := by decide +kernel
theorem dX12_turningsIn_78 : decode cX12_turningsIn 78 = .ok (.iload 4, 2) := by decide +kernel
theorem dX12_turningsIn_80 : decode cX12_turningsIn 80 = .ok (.iaload, 1) := by decide +kernel
theorem dX12_turningsIn_81 : decode cX12_turningsIn 81 = .ok (.aload_n 0, 1) := by decide +kernel
theorem dX12_turningsIn_82 : decode cX12_turningsIn 82 = .ok (.getfield 55, 3) := by decide +kernel
theorem dX12_turningsIn_85 : decode cX12_turningsIn 85 = .ok (.iload 4, 2) := by decide +kernel
theorem dX12_turningsIn_87 : decode cX12_turningsIn 87 = .ok (.iaload, 1) := by decide +kernel
theorem dX12_turningsIn_88 : decode cX12_turningsIn 88 = .ok (.invokevirtual 301, 3) := by decide +kernel
theorem dX12_turningsIn_91 : decode cX12_turningsIn 91 = .ok (.iadd, 1) := by decide +kernel
theorem dX12_turningsIn_92 : decode cX12_turningsIn 92 = .ok (.istore 5, 2) := by decide +kernel
theorem dX12_turningsIn_94 : decode cX12_turningsIn 94 = .ok (.iinc 6 1, 3) := by decide +kernel
theorem dX12_turningsIn_97 : decode cX12_turningsIn 97 = .ok (.goto (-81), 3) := by decide +kernel
theorem dX12_turningsIn_100 : decode cX12_turningsIn 100 = .ok (.iload 5, 2) := by decide +kernel
theorem dX12_turningsIn_102 : decode cX12_turningsIn 102 = .ok (.ireturn, 1) := by decide +kernel
theorem dX12_ownOf_0 : decode cX12_ownOf 0 = .ok (.iconst 0, 1) := by decide +kernel
theorem dX12_ownOf_1 : decode cX12_ownOf 1 = .ok (.istore_n 3, 1) := by decide +kernel
theorem dX12_ownOf_2 : decode cX12_ownOf 2 = .ok (.iconst 0, 1) := by decide +kernel
theorem dX12_ownOf_3 : decode cX12_ownOf 3 = .ok (.istore 4, 2) := by decide +kernel
theorem dX12_ownOf_5 : decode cX12_ownOf 5 = .ok (.iload 4, 2) := by decide +kernel
theorem dX12_ownOf_7 : decode cX12_ownOf 7 = .ok (.sipush 500, 3) := by decide +kernel
theorem dX12_ownOf_10 : decode cX12_ownOf 10 = .ok (.if_icmp .gt 85, 3) := by decide +kernel
theorem dX12_ownOf_13 : decode cX12_ownOf 13 = .ok (.iload_n 3, 1) := by decide +kernel
theorem dX12_ownOf_14 : decode cX12_ownOf 14 = .ok (.aload_n 0, 1) := by decide +kernel
theorem dX12_ownOf_15 : decode cX12_ownOf 15 = .ok (.getfield 87, 3) := by decide +kernel
theorem dX12_ownOf_18 : decode cX12_ownOf 18 = .ok (.iconst 0, 1) := by decide +kernel
theorem dX12_ownOf_19 : decode cX12_ownOf 19 = .ok (.iaload, 1) := by decide +kernel
theorem dX12_ownOf_20 : decode cX12_ownOf 20 = .ok (.aload_n 0, 1) := by decide +kernel
theorem dX12_ownOf_21 : decode cX12_ownOf 21 = .ok (.iload_n 1, 1) := by decide +kernel
theorem dX12_ownOf_22 : decode cX12_ownOf 22 = .ok (.iload_n 2, 1) := by decide +kernel
theorem dX12_ownOf_23 : decode cX12_ownOf 23 = .ok (.iload 4, 2) := by decide +kernel
theorem dX12_ownOf_25 : decode cX12_ownOf 25 = .ok (.invokevirtual 305, 3) := by decide +kernel
theorem dX12_ownOf_28 : decode cX12_ownOf 28 = .ok (.imul, 1) := by decide +kernel
theorem dX12_ownOf_29 : decode cX12_ownOf 29 = .ok (.iadd, 1) := by decide +kernel
theorem dX12_ownOf_30 : decode cX12_ownOf 30 = .ok (.istore_n 3, 1) := by decide +kernel
theorem dX12_ownOf_31 : decode cX12_ownOf 31 = .ok (.iconst 4, 1) := by decide +kernel
theorem dX12_ownOf_32 : decode cX12_ownOf 32 = .ok (.iload_n 1, 1) := by decide +kernel
theorem dX12_ownOf_33 : decode cX12_ownOf 33 = .ok (.imul, 1) := by decide +kernel
theorem dX12_ownOf_34 : decode cX12_ownOf 34 = .ok (.istore 5, 2) := by decide +kernel
theorem dX12_ownOf_36 : decode cX12_ownOf 36 = .ok (.iload 5, 2) := by decide +kernel
theorem dX12_ownOf_38 : decode cX12_ownOf 38 = .ok (.iconst 4, 1) := by decide +kernel
theorem dX12_ownOf_39 : decode cX12_ownOf 39 = .ok (.iload_n 1, 1) := by decide +kernel
theorem dX12_ownOf_40 : decode cX12_ownOf 40 = .ok (.imul, 1) := by decide +kernel
theorem dX12_ownOf_41 : decode cX12_ownOf 41 = .ok (.aload_n 0, 1) := by decide +kernel
theorem dX12_ownOf_42 : decode cX12_ownOf 42 = .ok (.getfield 41, 3) := by decide +kernel
theorem dX12_ownOf_45 : decode cX12_ownOf 45 = .ok (.iload_n 1, 1) := by decide +kernel
theorem dX12_ownOf_46 : decode cX12_ownOf 46 = .ok (.iaload, 1) := by decide +kernel
theorem dX12_ownOf_47 : decode cX12_ownOf 47 = .ok (.iadd, 1) := by decide +kernel
theorem dX12_ownOf_48 : decode cX12_ownOf 48 = .ok (.if_icmp .ge 41, 3) := by decide +kernel
theorem dX12_ownOf_51 : decode cX12_ownOf 51 = .ok (.aload_n 0, 1) := by decide +kernel
theorem dX12_ownOf_52 : decode cX12_ownOf 52 = .ok (.getfield 72, 3) := by decide +kernel
theorem dX12_ownOf_55 : decode cX12_ownOf 55 = .ok (.iload 5, 2) := by decide +kernel
theorem dX12_ownOf_57 : decode cX12_ownOf 57 = .ok (.iaload, 1) := by decide +kernel
theorem dX12_ownOf_58 : decode cX12_ownOf 58 = .ok (.iload 4, 2) := by decide +kernel
theorem dX12_ownOf_60 : decode cX12_ownOf 60 = .ok (.if_icmp .ne 23, 3) := by decide +kernel
theorem dX12_ownOf_63 : decode cX12_ownOf 63 = .ok (.iload_n 3, 1) := by decide +kernel
theorem dX12_ownOf_64 : decode cX12_ownOf 64 = .ok (.i2l, 1) := by decide +kernel
theorem dX12_ownOf_65 : decode cX12_ownOf 65 = .ok (.bipush 100, 2) := by decide +kernel
theorem dX12_ownOf_67 : decode cX12_ownOf 67 = .ok (.aload_n 0, 1) := by decide +kernel
theorem dX12_ownOf_68 : decode cX12_ownOf 68 = .ok (.getfield 75, 3) := by decide +kernel
theorem dX12_ownOf_71 : decode cX12_ownOf 71 = .ok (.iload 5, 2) := by decide +kernel
theorem dX12_ownOf_73 : decode cX12_ownOf 73 = .ok (.iaload, 1) := by decide +kernel
theorem dX12_ownOf_74 : decode cX12_ownOf 74 = .ok (.isub, 1) := by decide +kernel
theorem dX12_ownOf_75 : decode cX12_ownOf 75 = .ok (.i2l, 1) := by decide +kernel
theorem dX12_ownOf_76 : decode cX12_ownOf 76 = .ok (.lmul, 1) := by decide +kernel
theorem dX12_ownOf_77 : decode cX12_ownOf 77 = .ok (.ldc2_w 308, 3) := by decide +kernel
theorem dX12_ownOf_80 : decode cX12_ownOf 80 = .ok (.ldiv, 1) := by decide +kernel
theorem dX12_ownOf_81 : decode cX12_ownOf 81 = .ok (.l2i, 1) := by decide +kernel
theorem dX12_ownOf_82 : decode cX12_ownOf 82 = .ok (.istore_n 3, 1) := by decide +kernel
theorem dX12_ownOf_83 : decode cX12_ownOf 83 = .ok (.iinc 5 1, 3) := by decide +kernel
theorem dX12_ownOf_86 : decode cX12_ownOf 86 = .ok (.goto (-50), 3) := by decide +kernel
theorem dX12_ownOf_89 : decode cX12_ownOf 89 = .ok (.iinc 4 1, 3) := by decide +kernel
theorem dX12_ownOf_92 : decode cX12_ownOf 92 = .ok (.goto (-87), 3) := by decide +kernel
theorem dX12_ownOf_95 : decode cX12_ownOf 95 = .ok (.iload_n 3, 1) := by decide +kernel
theorem dX12_ownOf_96 : decode cX12_ownOf 96 = .ok (.ireturn, 1) := by decide +kernel
theorem dX12_hairOf_0 : decode cX12_hairOf 0 = .ok (.iload_n 2, 1) := by decide +kernel
theorem dX12_hairOf_1 : decode cX12_hairOf 1 = .ok (.iconst 2, 1) := by decide +kernel
theorem dX12_hairOf_2 : decode cX12_hairOf 2 = .ok (.irem, 1) := by decide +kernel
theorem dX12_hairOf_3 : decode cX12_hairOf 3 = .ok (.iconst 1, 1) := by decide +kernel
theorem dX12_hairOf_4 : decode cX12_hairOf 4 = .ok (.if_icmp .ne 12, 3) := by decide +kernel
theorem dX12_hairOf_7 : decode cX12_hairOf 7 = .ok (.aload_n 0, 1) := by decide +kernel
theorem dX12_hairOf_8 : decode cX12_hairOf 8 = .ok (.getfield 39, 3) := by decide +kernel
theorem dX12_hairOf_11 : decode cX12_hairOf 11 = .ok (.iload_n 1, 1) := by decide +kernel
theorem dX12_hairOf_12 : decode cX12_hairOf 12 = .ok (.iaload, 1) := by decide +kernel
theorem dX12_hairOf_13 : decode cX12_hairOf 13 = .ok (.goto 4, 3) := by decide +kernel
theorem dX12_hairOf_16 : decode cX12_hairOf 16 = .ok (.iconst 0, 1) := by decide +kernel
theorem dX12_hairOf_17 : decode cX12_hairOf 17 = .ok (.ireturn, 1) := by decide +kernel
theorem dX12_tellDirt_0 : decode cX12_tellDirt 0 = .ok (.iconst 0, 1) := by decide +kernel
theorem dX12_tellDirt_1 : decode cX12_tellDirt 1 = .ok (.istore_n 2, 1) := by decide +kernel
theorem dX12_tellDirt_2 : decode cX12_tellDirt 2 = .ok (.iconst 0, 1) := by decide +kernel
theorem dX12_tellDirt_3 : decode cX12_tellDirt 3 = .ok (.istore_n 3, 1) := by decide +kernel
theorem dX12_tellDirt_4 : decode cX12_tellDirt 4 = .ok (.iload_n 3, 1) := by decide +kernel
theorem dX12_tellDirt_5 : decode cX12_tellDirt 5 = .ok (.aload_n 0, 1) := by decide +kernel
theorem dX12_tellDirt_6 : decode cX12_tellDirt 6 = .ok (.getfield 32, 3) := by decide +kernel
theorem dX12_tellDirt_9 : decode cX12_tellDirt 9 = .ok (.iload_n 1, 1) := by decide +kernel
theorem dX12_tellDirt_10 : decode cX12_tellDirt 10 = .ok (.iaload, 1) := by decide +kernel
theorem dX12_tellDirt_11 : decode cX12_tellDirt 11 = .ok (.if_icmp .ge 97, 3) := by decide +kernel
theorem dX12_tellDirt_14 : decode cX12_tellDirt 14 = .ok (.aload_n 0, 1) := by decide +kernel
theorem dX12_tellDirt_15 : decode cX12_tellDirt 15 = .ok (.getfield 106, 3) := by decide +kernel
theorem dX12_tellDirt_18 : decode cX12_tellDirt 18 = .ok (.iload_n 3, 1) := by decide +kernel
theorem dX12_tellDirt_19 : decode cX12_tellDirt 19 = .ok (.aload_n 0, 1) := by decide +kernel
theorem dX12_tellDirt_20 : decode cX12_tellDirt 20 = .ok (.iload_n 1, 1) := by decide +kernel
theorem dX12_tellDirt_21 : decode cX12_tellDirt 21 = .ok (.iload_n 3, 1) := by decide +kernel
theorem dX12_tellDirt_22 : decode cX12_tellDirt 22 = .ok (.invokevirtual 310, 3) := by decide +kernel
theorem dX12_tellDirt_25 : decode cX12_tellDirt 25 = .ok (.iastore, 1) := by decide +kernel
theorem dX12_tellDirt_26 : decode cX12_tellDirt 26 = .ok (.aload_n 0, 1) := by decide +kernel
theorem dX12_tellDirt_27 : decode cX12_tellDirt 27 = .ok (.getfield 109, 3) := by decide +kernel
theorem dX12_tellDirt_30 : decode cX12_tellDirt 30 = .ok (.iload_n 3, 1) := by decide +kernel
theorem dX12_tellDirt_31 : decode cX12_tellDirt 31 = .ok (.aload_n 0, 1) := by decide +kernel
theorem dX12_tellDirt_32 : decode cX12_tellDirt 32 = .ok (.getfield 106, 3) := by decide +kernel
theorem dX12_tellDirt_35 : decode cX12_tellDirt 35 = .ok (.iload_n 3, 1) := by decide +kernel
theorem dX12_tellDirt_36 : decode cX12_tellDirt 36 = .ok (.iaload, 1) := by decide +kernel
theorem dX12_tellDirt_37 : decode cX12_tellDirt 37 = .ok (.aload_n 0, 1) := by decide +kernel
theorem dX12_tellDirt_38 : decode cX12_tellDirt 38 = .ok (.getfield 64, 3) := by decide +kernel
theorem dX12_tellDirt_41 : decode cX12_tellDirt 41 = .ok (.iload_n 1, 1) := by decide +kernel
theorem dX12_tellDirt_42 : decode cX12_tellDirt 42 = .ok (.iload_n 3, 1) := by decide +kernel
theorem dX12_tellDirt_43 : decode cX12_tellDirt 43 = .ok (.invokestatic 244, 3) := by decide +kernel
theorem dX12_tellDirt_46 : decode cX12_tellDirt 46 = .ok (.iaload, 1) := by decide +kernel
theorem dX12_tellDirt_47 : decode cX12_tellDirt 47 = .ok (.iadd, 1) := by decide +kernel
theorem dX12_tellDirt_48 : decode cX12_tellDirt 48 = .ok (.iload_n 2, 1) := by decide +kernel
theorem dX12_tellDirt_49 : decode cX12_tellDirt 49 = .ok (.i2l, 1) := by decide +kernel
theorem dX12_tellDirt_50 : decode cX12_tellDirt 50 = .ok (.aload_n 0, 1) := by decide +kernel
theorem dX12_tellDirt_51 : decode cX12_tellDirt 51 = .ok (.getfield 87, 3) := by decide +kernel
theorem dX12_tellDirt_54 : decode cX12_tellDirt 54 = .ok (.iconst 1, 1) := by decide +kernel
theorem dX12_tellDirt_55 : decode cX12_tellDirt 55 = .ok (.iaload, 1) := by decide +kernel
theorem dX12_tellDirt_56 : decode cX12_tellDirt 56 = .ok (.i2l, 1) := by decide +kernel
theorem dX12_tellDirt_57 : decode cX12_tellDirt 57 = .ok (.lmul, 1) := by decide +kernel
theorem dX12_tellDirt_58 : decode cX12_tellDirt 58 = .ok (.ldc2_w 308, 3) := by decide +kernel
theorem dX12_tellDirt_61 : decode cX12_tellDirt 61 = .ok (.ldiv, 1) := by decide +kernel
theorem dX12_tellDirt_62 : decode cX12_tellDirt 62 = .ok (.l2i, 1) := by decide +kernel
theorem dX12_tellDirt_63 : decode cX12_tellDirt 63 = .ok (.iadd, 1) := by decide +kernel
theorem dX12_tellDirt_64 : decode cX12_tellDirt 64 = .ok (.iastore, 1) := by decide +kernel
theorem dX12_tellDirt_65 : decode cX12_tellDirt 65 = .ok (.aload_n 0, 1) := by decide +kernel
theorem dX12_tellDirt_66 : decode cX12_tellDirt 66 = .ok (.getfield 109, 3) := by decide +kernel
theorem dX12_tellDirt_69 : decode cX12_tellDirt 69 = .ok (.iload_n 3, 1) := by decide +kernel
theorem dX12_tellDirt_70 : decode cX12_tellDirt 70 = .ok (.iaload, 1) := by decide +kernel
theorem dX12_tellDirt_71 : decode cX12_tellDirt 71 = .ok (.istore_n 2, 1) := by decide +kernel
theorem dX12_tellDirt_72 : decode cX12_tellDirt 72 = .ok (.aload_n 0, 1) := by decide +kernel
theorem dX12_tellDirt_73 : decode cX12_tellDirt 73 = .ok (.getfield 112, 3) := by decide +kernel
theorem dX12_tellDirt_76 : decode cX12_tellDirt 76 = .ok (.iload_n 3, 1) := by decide +kernel
theorem dX12_tellDirt_77 : decode cX12_tellDirt 77 = .ok (.aload_n 0, 1) := by decide +kernel
theorem dX12_tellDirt_78 : decode cX12_tellDirt 78 = .ok (.getfield 58, 3) := by decide +kernel
theorem dX12_tellDirt_81 : decode cX12_tellDirt 81 = .ok (.iload_n 1, 1) := by decide +kernel
theorem dX12_tellDirt_82 : decode cX12_tellDirt 82 = .ok (.iload_n 3, 1) := by decide +kernel
theorem dX12_tellDirt_83 : decode cX12_tellDirt 83 = .ok (.invokestatic 244, 3) := by decide +kernel
theorem dX12_tellDirt_86 : decode cX12_tellDirt 86 = .ok (.iaload, 1) := by decide +kernel
theorem dX12_tellDirt_87 : decode cX12_tellDirt 87 = .ok (.aload_n 0, 1) := by decide +kernel
theorem dX12_tellDirt_88 : decode cX12_tellDirt 88 = .ok (.iload_n 1, 1) := by decide +kernel
theorem dX12_tellDirt_89 : decode cX12_tellDirt 89 = .ok (.iload_n 3, 1) := by decide +kernel
theorem dX12_tellDirt_90 : decode cX12_tellDirt 90 = .ok (.invokevirtual 313, 3) := by decide +kernel
theorem dX12_tellDirt_93 : decode cX12_tellDirt 93 = .ok (.iadd, 1) := by decide +kernel
theorem dX12_tellDirt_94 : decode cX12_tellDirt 94 = .ok (.aload_n 0, 1) := by decide +kernel
theorem dX12_tellDirt_95 : decode cX12_tellDirt 95 = .ok (.getfield 109, 3) := by decide +kernel
theorem dX12_tellDirt_98 : decode cX12_tellDirt 98 = .ok (.iload_n 3, 1) := by decide +kernel
theorem dX12_tellDirt_99 : decode cX12_tellDirt 99 = .ok (.iaload, 1) := by decide +kernel
theorem dX12_tellDirt_100 : decode cX12_tellDirt 100 = .ok (.iadd, 1) := by decide +kernel
theorem dX12_tellDirt_101 : decode cX12_tellDirt 101 = .ok (.iastore, 1) := by decide +kernel
theorem dX12_tellDirt_102 : decode cX12_tellDirt 102 = .ok (.iinc 3 1, 3) := by decide +kernel
theorem dX12_tellDirt_105 : decode cX12_tellDirt 105 = .ok (.goto (-101), 3) := by decide +kernel
theorem dX12_tellDirt_108 : decode cX12_tellDirt 108 = .ok (.return_, 1) := by decide +kernel
theorem dX12_dirt_0 : decode cX12_dirt 0 = .ok (.aload_n 0, 1) := by decide +kernel
theorem dX12_dirt_1 : decode cX12_dirt 1 = .ok (.iconst 0, 1) := by decide +kernel
theorem dX12_dirt_2 : decode cX12_dirt 2 = .ok (.putfield 158, 3) := by decide +kernel
theorem dX12_dirt_5 : decode cX12_dirt 5 = .ok (.aload_n 0, 1) := by decide +kernel
theorem dX12_dirt_6 : decode cX12_dirt 6 = .ok (.iload_n 1, 1) := by decide +kernel
theorem dX12_dirt_7 : decode cX12_dirt 7 = .ok (.iload_n 2, 1) := by decide +kernel
theorem dX12_dirt_8 : decode cX12_dirt 8 = .ok (.invokevirtual 294, 3) := by decide +kernel
theorem dX12_dirt_11 : decode cX12_dirt 11 = .ok (.ifCond .eq 12, 3) := by decide +kernel
theorem dX12_dirt_14 : decode cX12_dirt 14 = .ok (.iload_n 3, 1) := by decide +kernel
theorem dX12_dirt_15 : decode cX12_dirt 15 = .ok (.iconst 0, 1) := by decide +kernel
theorem dX12_dirt_16 : decode cX12_dirt 16 = .ok (.iconst 3, 1) := by decide +kernel
theorem dX12_dirt_17 : decode cX12_dirt 17 = .ok (.invokestatic 161, 3) := by decide +kernel
theorem dX12_dirt_20 : decode cX12_dirt 20 = .ok (.ifCond .ne 9, 3) := by decide +kernel
theorem dX12_dirt_23 : decode cX12_dirt 23 = .ok (.aload_n 0, 1) := by decide +kernel
theorem dX12_dirt_24 : decode cX12_dirt 24 = .ok (.iconst 1, 1) := by decide +kernel
theorem dX12_dirt_25 : decode cX12_dirt 25 = .ok (.invokevirtual 263, 3) := by decide +kernel
theorem dX12_dirt_28 : decode cX12_dirt 28 = .ok (.ireturn, 1) := by decide +kernel
theorem dX12_dirt_29 : decode cX12_dirt 29 = .ok (.iload_n 3, 1) := by decide +kernel
theorem dX12_dirt_30 : decode cX12_dirt 30 = .ok (.iconst 3, 1) := by decide +kernel
theorem dX12_dirt_31 : decode cX12_dirt 31 = .ok (.if_icmp .ne 39, 3) := by decide +kernel
theorem dX12_dirt_34 : decode cX12_dirt 34 = .ok (.iconst 0, 1) := by decide +kernel
theorem dX12_dirt_35 : decode cX12_dirt 35 = .ok (.istore 4, 2) := by decide +kernel
theorem dX12_dirt_37 : decode cX12_dirt 37 = .ok (.iconst 0, 1) := by decide +kernel
theorem dX12_dirt_38 : decode cX12_dirt 38 = .ok (.istore 5, 2) := by decide +kernel
theorem dX12_dirt_40 : decode cX12_dirt 40 = .ok (.iload 5, 2) := by decide +kernel
theorem dX12_dirt_42 : decode cX12_dirt 42 = .ok (.sipush 500, 3) := by decide +kernel
theorem dX12_dirt_45 : decode cX12_dirt 45 = .ok (.if_icmp .gt 22, 3) := by decide +kernel
theorem dX12_dirt_48 : decode cX12_dirt 48 = .ok (.iload 4, 2) := by decide +kernel
theorem dX12_dirt_50 : decode cX12_dirt 50 = .ok (.aload_n 0, 1) := by decide +kernel
theorem dX12_dirt_51 : decode cX12_dirt 51 = .ok (.iload_n 1, 1) := by decide +kernel
theorem dX12_dirt_52 : decode cX12_dirt 52 = .ok (.iload_n 2, 1) := by decide +kernel
theorem dX12_dirt_53 : decode cX12_dirt 53 = .ok (.iload 5, 2) := by decide +kernel
theorem dX12_dirt_55 : decode cX12_dirt 55 = .ok (.invokevirtual 305, 3) := by decide +kernel
theorem dX12_dirt_58 : decode cX12_dirt 58 = .ok (.iadd, 1) := by decide +kernel
theorem dX12_dirt_59 : decode cX12_dirt 59 = .ok (.istore 4, 2) := by decide +kernel
theorem dX12_dirt_61 : decode cX12_dirt 61 = .ok (.iinc 5 1, 3) := by decide +kernel
theorem dX12_dirt_64 : decode cX12_dirt 64 = .ok (.goto (-24), 3) := by decide +kernel
theorem dX12_dirt_67 : decode cX12_dirt 67 = .ok (.iload 4, 2) := by decide +kernel
theorem dX12_dirt_69 : decode cX12_dirt 69 = .ok (.ireturn, 1) := by decide +kernel
theorem dX12_dirt_70 : decode cX12_dirt 70 = .ok (.aload_n 0, 1) := by decide +kernel
theorem dX12_dirt_71 : decode cX12_dirt 71 = .ok (.iload_n 1, 1) := by decide +kernel
theorem dX12_dirt_72 : decode cX12_dirt 72 = .ok (.invokevirtual 316, 3) := by decide +kernel
theorem dX12_dirt_75 : decode cX12_dirt 75 = .ok (.iload_n 3, 1) := by decide +kernel
theorem dX12_dirt_76 : decode cX12_dirt 76 = .ok (.ifCond .ne 12, 3) := by decide +kernel
theorem dX12_dirt_79 : decode cX12_dirt 79 = .ok (.aload_n 0, 1) := by decide +kernel
theorem dX12_dirt_80 : decode cX12_dirt 80 = .ok (.getfield 106, 3) := by decide +kernel
theorem dX12_dirt_83 : decode cX12_dirt 83 = .ok (.iload_n 2, 1) := by decide +kernel
theorem dX12_dirt_84 : decode cX12_dirt 84 = .ok (.iaload, 1) := by decide +kernel
theorem dX12_dirt_85 : decode cX12_dirt 85 = .ok (.goto 23, 3) := by decide +kernel
theorem dX12_dirt_88 : decode cX12_dirt 88 = .ok (.iload_n 3, 1) := by decide +kernel
theorem dX12_dirt_89 : decode cX12_dirt 89 = .ok (.iconst 1, 1) := by decide +kernel
theorem dX12_dirt_90 : decode cX12_dirt 90 = .ok (.if_icmp .ne 12, 3) := by decide +kernel
theorem dX12_dirt_93 : decode cX12_dirt 93 = .ok (.aload_n 0, 1) := by decide +kernel
theorem dX12_dirt_94 : decode cX12_dirt 94 = .ok (.getfield 109, 3) := by decide +kernel
theorem dX12_dirt_97 : decode cX12_dirt 97 = .ok (.iload_n 2, 1) := by decide +kernel
theorem dX12_dirt_98 : decode cX12_dirt 98 = .ok (.iaload, 1) := by decide +kernel
theorem dX12_dirt_99 : decode cX12_dirt 99 = .ok (.goto 9, 3) := by decide +kernel
theorem dX12_dirt_102 : decode cX12_dirt 102 = .ok (.aload_n 0, 1) := by decide +kernel
theorem dX12_dirt_103 : decode cX12_dirt 103 = .ok (.getfield 112, 3) := by decide +kernel
theorem dX12_dirt_106 : decode cX12_dirt 106 = .ok (.iload_n 2, 1) := by decide +kernel
theorem dX12_dirt_107 : decode cX12_dirt 107 = .ok (.iaload, 1) := by decide +kernel
theorem dX12_dirt_108 : decode cX12_dirt 108 = .ok (.ireturn, 1) := by decide +kernel
theorem dX12_reads_0 : decode cX12_reads 0 = .ok (.iload_n 3, 1) := by decide +kernel
theorem dX12_reads_1 : decode cX12_reads 1 = .ok (.iconst 0, 1) := by decide +kernel
theorem dX12_reads_2 : decode cX12_reads 2 = .ok (.ldc_w 319, 3) := by decide +kernel
theorem dX12_reads_5 : decode cX12_reads 5 = .ok (.invokestatic 161, 3) := by decide +kernel
theorem dX12_reads_8 : decode cX12_reads 8 = .ok (.ifCond .ne 5, 3) := by decide +kernel
theorem dX12_reads_11 : decode cX12_reads 11 = .ok (.iconst 0, 1) := by decide +kernel
theorem dX12_reads_12 : decode cX12_reads 12 = .ok (.ireturn, 1) := by decide +kernel
theorem dX12_reads_13 : decode cX12_reads 13 = .ok (.iload_n 1, 1) := by decide +kernel
theorem dX12_reads_14 : decode cX12_reads 14 = .ok (.iload_n 2, 1) := by decide +kernel
theorem dX12_reads_15 : decode cX12_reads 15 = .ok (.invokestatic 244, 3) := by decide +kernel
theorem dX12_reads_18 : decode cX12_reads 18 = .ok (.istore 4, 2) := by decide +kernel
theorem dX12_reads_20 : decode cX12_reads 20 = .ok (.iconst 0, 1) := by decide +kernel
theorem dX12_reads_21 : decode cX12_reads 21 = .ok (.iload_n 3, 1) := by decide +kernel
theorem dX12_reads_22 : decode cX12_reads 22 = .ok (.aload_n 0, 1) := by decide +kernel
theorem dX12_reads_23 : decode cX12_reads 23 = .ok (.getfield 87, 3) := by decide +kernel
theorem dX12_reads_26 : decode cX12_reads 26 = .ok (.iconst 2, 1) := by decide +kernel
theorem dX12_reads_27 : decode cX12_reads 27 = .ok (.iaload, 1) := by decide +kernel
theorem dX12_reads_28 : decode cX12_reads 28 = .ok (.isub, 1) := by decide +kernel
theorem dX12_reads_29 : decode cX12_reads 29 = .ok (.invokestatic 298, 3) := by decide +kernel
theorem dX12_reads_32 : decode cX12_reads 32 = .ok (.istore 5, 2) := by decide +kernel
theorem dX12_reads_34 : decode cX12_reads 34 = .ok (.iload_n 3, 1) := by decide +kernel
theorem dX12_reads_35 : decode cX12_reads 35 = .ok (.aload_n 0, 1) := by decide +kernel
theorem dX12_reads_36 : decode cX12_reads 36 = .ok (.getfield 87, 3) := by decide +kernel
theorem dX12_reads_39 : decode cX12_reads 39 = .ok (.iconst 2, 1) := by decide +kernel
theorem dX12_reads_40 : decode cX12_reads 40 = .ok (.iaload, 1) := by decide +kernel
theorem dX12_reads_41 : decode cX12_reads 41 = .ok (.iadd, 1) := by decide +kernel
theorem dX12_reads_42 : decode cX12_reads 42 = .ok (.istore 6, 2) := by decide +kernel
theorem dX12_reads_44 : decode cX12_reads 44 = .ok (.aload_n 0, 1) := by decide +kernel
theorem dX12_reads_45 : decode cX12_reads 45 = .ok (.getfield 66, 3) := by decide +kernel
theorem dX12_reads_48 : decode cX12_reads 48 = .ok (.iload 4, 2) := by decide +kernel
theorem dX12_reads_50 : decode cX12_reads 50 = .ok (.iaload, 1) := by decide +kernel
theorem dX12_reads_51 : decode cX12_reads 51 = .ok (.iconst (-1), 1) := by decide +kernel
theorem dX12_reads_52 : decode cX12_reads 52 = .ok (.if_icmp .eq 31, 3) := by decide +kernel
theorem dX12_reads_55 : decode cX12_reads 55 = .ok (.iload 5, 2) := by decide +kernel
theorem dX12_reads_57 : decode cX12_reads 57 = .ok (.aload_n 0, 1) := by decide +kernel
theorem dX12_reads_58 : decode cX12_reads 58 = .ok (.getfield 66, 3) := by decide +kernel
theorem dX12_reads_61 : decode cX12_reads 61 = .ok (.iload 4, 2) := by decide +kernel
theorem dX12_reads_63 : decode cX12_reads 63 = .ok (.iaload, 1) := by decide +kernel
theorem dX12_reads_64 : decode cX12_reads 64 = .ok (.invokestatic 298, 3) := by decide +kernel
theorem dX12_reads_67 : decode cX12_reads 67 = .ok (.istore 5, 2) := by decide +kernel
theorem dX12_reads_69 : decode cX12_reads 69 = .ok (.iload 6, 2) := by decide +kernel
theorem dX12_reads_71 : decode cX12_reads 71 = .ok (.aload_n 0, 1) := by decide +kernel
theorem dX12_reads_72 : decode cX12_reads 72 = .ok (.getfield 69, 3) := by decide +kernel
theorem dX12_reads_75 : decode cX12_reads 75 = .ok (.iload 4, 2) := by decide +kernel
theorem dX12_reads_77 : decode cX12_reads 77 = .ok (.iaload, 1) := by decide +kernel
theorem dX12_reads_78 : decode cX12_reads 78 = .ok (.invokestatic 198, 3) := by decide +kernel
theorem dX12_reads_81 : decode cX12_reads 81 = .ok (.istore 6, 2) := by decide +kernel
theorem dX12_reads_83 : decode cX12_reads 83 = .ok (.iload 5, 2) := by decide +kernel
theorem dX12_reads_85 : decode cX12_reads 85 = .ok (.iload 6, 2) := by decide +kernel
theorem dX12_reads_87 : decode cX12_reads 87 = .ok (.if_icmp .le 5, 3) := by decide +kernel
theorem dX12_reads_90 : decode cX12_reads 90 = .ok (.iconst 0, 1) := by decide +kernel
theorem dX12_reads_91 : decode cX12_reads 91 = .ok (.ireturn, 1) := by decide +kernel
theorem dX12_reads_92 : decode cX12_reads 92 = .ok (.aload_n 0, 1) := by decide +kernel
theorem dX12_reads_93 : decode cX12_reads 93 = .ok (.getfield 66, 3) := by decide +kernel
theorem dX12_reads_96 : decode cX12_reads 96 = .ok (.iload 4, 2) := by decide +kernel
theorem dX12_reads_98 : decode cX12_reads 98 = .ok (.iload 5, 2) := by decide +kernel
theorem dX12_reads_100 : decode cX12_reads 100 = .ok (.iastore, 1) := by decide +kernel
theorem dX12_reads_101 : decode cX12_reads 101 = .ok (.aload_n 0, 1) := by decide +kernel
theorem dX12_reads_102 : decode cX12_reads 102 = .ok (.getfield 69, 3) := by decide +kernel
theorem dX12_reads_105 : decode cX12_reads 105 = .ok (.iload 4, 2) := by decide +kernel
theorem dX12_reads_107 : decode cX12_reads 107 = .ok (.iload 6, 2) := by decide +kernel
theorem dX12_reads_109 : decode cX12_reads 109 = .ok (.iastore, 1) := by decide +kernel
theorem dX12_reads_110 : decode cX12_reads 110 = .ok (.iconst 1, 1) := by decide +kernel
theorem dX12_reads_111 : decode cX12_reads 111 = .ok (.ireturn, 1) := by decide +kernel
theorem dX12_draw_0 : decode cX12_draw 0 = .ok (.aload_n 0, 1) := by decide +kernel
theorem dX12_draw_1 : decode cX12_draw 1 = .ok (.aload_n 0, 1) := by decide +kernel
theorem dX12_draw_2 : decode cX12_draw 2 = .ok (.getfield 320, 3) := by decide +kernel
theorem dX12_draw_5 : decode cX12_draw 5 = .ok (.ldc_w 323, 3) := by decide +kernel
theorem dX12_draw_8 : decode cX12_draw 8 = .ok (.imul, 1) := by decide +kernel
theorem dX12_draw_9 : decode cX12_draw 9 = .ok (.sipush 12345, 3) := by decide +kernel
theorem dX12_draw_12 : decode cX12_draw 12 = .ok (.iadd, 1) := by decide +kernel
theorem dX12_draw_13 : decode cX12_draw 13 = .ok (.putfield 320, 3) := by decide +kernel
theorem dX12_draw_16 : decode cX12_draw 16 = .ok (.aload_n 0, 1) := by decide +kernel
theorem dX12_draw_17 : decode cX12_draw 17 = .ok (.getfield 320, 3) := by decide +kernel
theorem dX12_draw_20 : decode cX12_draw 20 = .ok (.bipush 16, 2) := by decide +kernel
theorem dX12_draw_22 : decode cX12_draw 22 = .ok (.ishr, 1) := by decide +kernel
theorem dX12_draw_23 : decode cX12_draw 23 = .ok (.sipush 32767, 3) := by decide +kernel
theorem dX12_draw_26 : decode cX12_draw 26 = .ok (.iand, 1) := by decide +kernel
theorem dX12_draw_27 : decode cX12_draw 27 = .ok (.iload_n 1, 1) := by decide +kernel
theorem dX12_draw_28 : decode cX12_draw 28 = .ok (.irem, 1) := by decide +kernel
theorem dX12_draw_29 : decode cX12_draw 29 = .ok (.ireturn, 1) := by decide +kernel
theorem dX12_drawAll_0 : decode cX12_drawAll 0 = .ok (.iconst 0, 1) := by decide +kernel
theorem dX12_drawAll_1 : decode cX12_drawAll 1 = .ok (.istore_n 2, 1) := by decide +kernel
theorem dX12_drawAll_2 : decode cX12_drawAll 2 = .ok (.iconst 0, 1) := by decide +kernel
theorem dX12_drawAll_3 : decode cX12_drawAll 3 = .ok (.istore_n 3, 1) := by decide +kernel
theorem dX12_drawAll_4 : decode cX12_drawAll 4 = .ok (.iload_n 3, 1) := by decide +kernel
theorem dX12_drawAll_5 : decode cX12_drawAll 5 = .ok (.aload_n 0, 1) := by decide +kernel
theorem dX12_drawAll_6 : decode cX12_drawAll 6 = .ok (.getfield 32, 3) := by decide +kernel
theorem dX12_drawAll_9 : decode cX12_drawAll 9 = .ok (.iload_n 1, 1) := by decide +kernel
theorem dX12_drawAll_10 : decode cX12_drawAll 10 = .ok (.iaload, 1) := by decide +kernel
theorem dX12_drawAll_11 : decode cX12_drawAll 11 = .ok (.if_icmp .ge 62, 3) := by decide +kernel
theorem dX12_drawAll_14 : decode cX12_drawAll 14 = .ok (.iconst 0, 1) := by decide +kernel
theorem dX12_drawAll_15 : decode cX12_drawAll 15 = .ok (.aload_n 0, 1) := by decide +kernel
theorem dX12_drawAll_16 : decode cX12_drawAll 16 = .ok (.getfield 112, 3) := by decide +kernel
theorem dX12_drawAll_19 : decode cX12_drawAll 19 = .ok (.iload_n 3, 1) := by decide +kernel
theorem dX12_drawAll_20 : decode cX12_drawAll 20 = .ok (.iaload, 1) := by decide +kernel
theorem dX12_drawAll_21 : decode cX12_drawAll 21 = .ok (.aload_n 0, 1) := by decide +kernel
theorem dX12_drawAll_22 : decode cX12_drawAll 22 = .ok (.iconst 2, 1) := by decide +kernel
theorem dX12_drawAll_23 : decode cX12_drawAll 23 = .ok (.aload_n 0, 1) := by decide +kernel
theorem dX12_drawAll_24 : decode cX12_drawAll 24 = .ok (.getfield 87, 3) := by decide +kernel
theorem dX12_drawAll_27 : decode cX12_drawAll 27 = .ok (.iconst 2, 1) := by decide +kernel
theorem dX12_drawAll_28 : decode cX12_drawAll 28 = .ok (.iaload, 1) := by decide +kernel
theorem dX12_drawAll_29 : decode cX12_drawAll 29 = .ok (.imul, 1) := by decide +kernel
theorem dX12_drawAll_30 : decode cX12_drawAll 30 = .ok (.iconst 1, 1) := by decide +kernel
theorem dX12_drawAll_31 : decode cX12_drawAll 31 = .ok (.iadd, 1) := by decide +kernel
theorem dX12_drawAll_32 : decode cX12_drawAll 32 = .ok (.invokevirtual 324, 3) := by decide +kernel
theorem dX12_drawAll_35 : decode cX12_drawAll 35 = .ok (.iadd, 1) := by decide +kernel
theorem dX12_drawAll_36 : decode cX12_drawAll 36 = .ok (.aload_n 0, 1) := by decide +kernel
theorem dX12_drawAll_37 : decode cX12_drawAll 37 = .ok (.getfield 87, 3) := by decide +kernel
theorem dX12_drawAll_40 : decode cX12_drawAll 40 = .ok (.iconst 2, 1) := by decide +kernel
theorem dX12_drawAll_41 : decode cX12_drawAll 41 = .ok (.iaload, 1) := by decide +kernel
theorem dX12_drawAll_42 : decode cX12_drawAll 42 = .ok (.isub, 1) := by decide +kernel
theorem dX12_drawAll_43 : decode cX12_drawAll 43 = .ok (.invokestatic 298, 3) := by decide +kernel
theorem dX12_drawAll_46 : decode cX12_drawAll 46 = .ok (.istore 4, 2) := by decide +kernel
theorem dX12_drawAll_48 : decode cX12_drawAll 48 = .ok (.iload_n 2, 1) := by decide +kernel
theorem dX12_drawAll_49 : decode cX12_drawAll 49 = .ok (.aload_n 0, 1) := by decide +kernel
theorem dX12_drawAll_50 : decode cX12_drawAll 50 = .ok (.iload_n 1, 1) := by decide +kernel
theorem dX12_drawAll_51 : decode cX12_drawAll 51 = .ok (.iload_n 3, 1) := by decide +kernel
theorem dX12_drawAll_52 : decode cX12_drawAll 52 = .ok (.iload 4, 2) := by decide +kernel
theorem dX12_drawAll_54 : decode cX12_drawAll 54 = .ok (.invokevirtual 327, 3) := by decide +kernel
theorem dX12_drawAll_57 : decode cX12_drawAll 57 = .ok (.ifCond .eq 7, 3) := by decide +kernel
theorem dX12_drawAll_60 : decode cX12_drawAll 60 = .ok (.iconst 0, 1) := by decide +kernel
theorem dX12_drawAll_61 : decode cX12_drawAll 61 = .ok (.goto 4, 3) := by decide +kernel
theorem dX12_drawAll_64 : decode cX12_drawAll 64 = .ok (.iconst 1, 1) := by decide +kernel
theorem dX12_drawAll_65 : decode cX12_drawAll 65 = .ok (.iadd, 1) := by decide +kernel
theorem dX12_drawAll_66 : decode cX12_drawAll 66 = .ok (.istore_n 2, 1) := by decide +kernel
theorem dX12_drawAll_67 : decode cX12_drawAll 67 = .ok (.iinc 3 1, 3) := by decide +kernel
theorem dX12_drawAll_70 : decode cX12_drawAll 70 = .ok (.goto (-66), 3) := by decide +kernel
theorem dX12_drawAll_73 : decode cX12_drawAll 73 = .ok (.iload_n 2, 1) := by decide +kernel
theorem dX12_drawAll_74 : decode cX12_drawAll 74 = .ok (.ireturn, 1) := by decide +kernel
theorem dX12_drawn_0 : decode cX12_drawn 0 = .ok (.aload_n 0, 1) := by decide +kernel
theorem dX12_drawn_1 : decode cX12_drawn 1 = .ok (.iconst 0, 1) := by decide +kernel
theorem dX12_drawn_2 : decode cX12_drawn 2 = .ok (.putfield 158, 3) := by decide +kernel
theorem dX12_drawn_5 : decode cX12_drawn 5 = .ok (.iload_n 1, 1) := by decide +kernel
theorem dX12_drawn_6 : decode cX12_drawn 6 = .ok (.invokestatic 165, 3) := by decide +kernel
theorem dX12_drawn_9 : decode cX12_drawn 9 = .ok (.ifCond .ne 9, 3) := by decide +kernel
theorem dX12_drawn_12 : decode cX12_drawn 12 = .ok (.aload_n 0, 1) := by decide +kernel
theorem dX12_drawn_13 : decode cX12_drawn 13 = .ok (.iconst 1, 1) := by decide +kernel
theorem dX12_drawn_14 : decode cX12_drawn 14 = .ok (.invokevirtual 263, 3) := by decide +kernel
theorem dX12_drawn_17 : decode cX12_drawn 17 = .ok (.ireturn, 1) := by decide +kernel
theorem dX12_drawn_18 : decode cX12_drawn 18 = .ok (.aload_n 0, 1) := by decide +kernel
theorem dX12_drawn_19 : decode cX12_drawn 19 = .ok (.iload_n 2, 1) := by decide +kernel
theorem dX12_drawn_20 : decode cX12_drawn 20 = .ok (.putfield 320, 3) := by decide +kernel
theorem dX12_drawn_23 : decode cX12_drawn 23 = .ok (.aload_n 0, 1) := by decide +kernel
theorem dX12_drawn_24 : decode cX12_drawn 24 = .ok (.iload_n 1, 1) := by decide +kernel
theorem dX12_drawn_25 : decode cX12_drawn 25 = .ok (.invokevirtual 316, 3) := by decide +kernel
theorem dX12_drawn_28 : decode cX12_drawn 28 = .ok (.aload_n 0, 1) := by decide +kernel
theorem dX12_drawn_29 : decode cX12_drawn 29 = .ok (.iload_n 1, 1) := by decide +kernel
theorem dX12_drawn_30 : decode cX12_drawn 30 = .ok (.invokevirtual 330, 3) := by decide +kernel
theorem dX12_drawn_33 : decode cX12_drawn 33 = .ok (.istore_n 3, 1) := by decide +kernel
theorem dX12_drawn_34 : decode cX12_drawn 34 = .ok (.aload_n 0, 1) := by decide +kernel
theorem dX12_drawn_35 : decode cX12_drawn 35 = .ok (.getfield 96, 3) := by decide +kernel
theorem dX12_drawn_38 : decode cX12_drawn 38 = .ok (.iconst 1, 1) := by decide +kernel
theorem dX12_drawn_39 : decode cX12_drawn 39 = .ok (.dup2, 1) := by decide +kernel
theorem dX12_drawn_40 : decode cX12_drawn 40 = .ok (.iaload, 1) := by decide +kernel
theorem dX12_drawn_41 : decode cX12_drawn 41 = .ok (.iload_n 3, 1) := by decide +kernel
theorem dX12_drawn_42 : decode cX12_drawn 42 = .ok (.iadd, 1) := by decide +kernel
theorem dX12_drawn_43 : decode cX12_drawn 43 = .ok (.iastore, 1) := by decide +kernel
theorem dX12_drawn_44 : decode cX12_drawn 44 = .ok (.iload_n 3, 1) := by decide +kernel
theorem dX12_drawn_45 : decode cX12_drawn 45 = .ok (.ireturn, 1) := by decide +kernel
theorem dX12_read_0 : decode cX12_read 0 = .ok (.aload_n 0, 1) := by decide +kernel
theorem dX12_read_1 : decode cX12_read 1 = .ok (.iconst 0, 1) := by decide +kernel
theorem dX12_read_2 : decode cX12_read 2 = .ok (.putfield 158, 3) := by decide +kernel
theorem dX12_read_5 : decode cX12_read 5 = .ok (.aload_n 0, 1) := by decide +kernel
theorem dX12_read_6 : decode cX12_read 6 = .ok (.iload_n 1, 1) := by decide +kernel
theorem dX12_read_7 : decode cX12_read 7 = .ok (.iload_n 2, 1) := by decide +kernel
theorem dX12_read_8 : decode cX12_read 8 = .ok (.invokevirtual 294, 3) := by decide +kernel
theorem dX12_read_11 : decode cX12_read 11 = .ok (.ifCond .ne 10, 3) := by decide +kernel
theorem dX12_read_14 : decode cX12_read 14 = .ok (.aload_n 0, 1) := by decide +kernel
theorem dX12_read_15 : decode cX12_read 15 = .ok (.iconst 1, 1) := by decide +kernel
theorem dX12_read_16 : decode cX12_read 16 = .ok (.putfield 158, 3) := by decide +kernel
theorem dX12_read_19 : decode cX12_read 19 = .ok (.iconst 0, 1) := by decide +kernel
theorem dX12_read_20 : decode cX12_read 20 = .ok (.ireturn, 1) := by decide +kernel
theorem dX12_read_21 : decode cX12_read 21 = .ok (.aload_n 0, 1) := by decide +kernel
theorem dX12_read_22 : decode cX12_read 22 = .ok (.iload_n 1, 1) := by decide +kernel
theorem dX12_read_23 : decode cX12_read 23 = .ok (.iload_n 2, 1) := by decide +kernel
theorem dX12_read_24 : decode cX12_read 24 = .ok (.iload_n 3, 1) := by decide +kernel
theorem dX12_read_25 : decode cX12_read 25 = .ok (.invokevirtual 327, 3) := by decide +kernel
theorem dX12_read_28 : decode cX12_read 28 = .ok (.istore 4, 2) := by decide +kernel
theorem dX12_read_30 : decode cX12_read 30 = .ok (.aload_n 0, 1) := by decide +kernel
theorem dX12_read_31 : decode cX12_read 31 = .ok (.getfield 96, 3) := by decide +kernel
theorem dX12_read_34 : decode cX12_read 34 = .ok (.iconst 1, 1) := by decide +kernel
theorem dX12_read_35 : decode cX12_read 35 = .ok (.dup2, 1) := by decide +kernel
theorem dX12_read_36 : decode cX12_read 36 = .ok (.iaload, 1) := by decide +kernel
theorem dX12_read_37 : decode cX12_read 37 = .ok (.iload 4, 2) := by decide +kernel
theorem dX12_read_39 : decode cX12_read 39 = .ok (.ifCond .eq 7, 3) := by decide +kernel
theorem dX12_read_42 : decode cX12_read 42 = .ok (.iconst 0, 1) := by decide +kernel
theorem dX12_read_43 : decode cX12_read 43 = .ok (.goto 4, 3) := by decide +kernel
theorem dX12_read_46 : decode cX12_read 46 = .ok (.iconst 1, 1) := by decide +kernel
theorem dX12_read_47 : decode cX12_read 47 = .ok (.iadd, 1) := by decide +kernel
theorem dX12_read_48 : decode cX12_read 48 = .ok (.iastore, 1) := by decide +kernel
theorem dX12_read_49 : decode cX12_read 49 = .ok (.iload 4, 2) := by decide +kernel
theorem dX12_read_51 : decode cX12_read 51 = .ok (.ireturn, 1) := by decide +kernel
theorem dX12_bareLow_0 : decode cX12_bareLow 0 = .ok (.iconst 0, 1) := by decide +kernel
theorem dX12_bareLow_1 : decode cX12_bareLow 1 = .ok (.aload_n 0, 1) := by decide +kernel
theorem dX12_bareLow_2 : decode cX12_bareLow 2 = .ok (.getfield 66, 3) := by decide +kernel
theorem dX12_bareLow_5 : decode cX12_bareLow 5 = .ok (.iload_n 1, 1) := by decide +kernel
theorem dX12_bareLow_6 : decode cX12_bareLow 6 = .ok (.iload_n 2, 1) := by decide +kernel
theorem dX12_bareLow_7 : decode cX12_bareLow 7 = .ok (.invokestatic 244, 3) := by decide +kernel
theorem dX12_bareLow_10 : decode cX12_bareLow 10 = .ok (.iaload, 1) := by decide +kernel
theorem dX12_bareLow_11 : decode cX12_bareLow 11 = .ok (.aload_n 0, 1) := by decide +kernel
theorem dX12_bareLow_12 : decode cX12_bareLow 12 = .ok (.getfield 58, 3) := by decide +kernel
theorem dX12_bareLow_15 : decode cX12_bareLow 15 = .ok (.iload_n 1, 1) := by decide +kernel
theorem dX12_bareLow_16 : decode cX12_bareLow 16 = .ok (.iload_n 2, 1) := by decide +kernel
theorem dX12_bareLow_17 : decode cX12_bareLow 17 = .ok (.invokestatic 244, 3) := by decide +kernel
theorem dX12_bareLow_20 : decode cX12_bareLow 20 = .ok (.iaload, 1) := by decide +kernel
theorem dX12_bareLow_21 : decode cX12_bareLow 21 = .ok (.isub, 1) := by decide +kernel
theorem dX12_bareLow_22 : decode cX12_bareLow 22 = .ok (.aload_n 0, 1) := by decide +kernel
theorem dX12_bareLow_23 : decode cX12_bareLow 23 = .ok (.iload_n 1, 1) := by decide +kernel
theorem dX12_bareLow_24 : decode cX12_bareLow 24 = .ok (.iload_n 2, 1) := by decide +kernel
theorem dX12_bareLow_25 : decode cX12_bareLow 25 = .ok (.invokevirtual 313, 3) := by decide +kernel
theorem dX12_bareLow_28 : decode cX12_bareLow 28 = .ok (.isub, 1) := by decide +kernel
theorem dX12_bareLow_29 : decode cX12_bareLow 29 = .ok (.invokestatic 298, 3) := by decide +kernel
theorem dX12_bareLow_32 : decode cX12_bareLow 32 = .ok (.ireturn, 1) := by decide +kernel
theorem dX12_bareHigh_0 : decode cX12_bareHigh 0 = .ok (.iconst 0, 1) := by decide +kernel
theorem dX12_bareHigh_1 : decode cX12_bareHigh 1 = .ok (.aload_n 0, 1) := by decide +kernel
theorem dX12_bareHigh_2 : decode cX12_bareHigh 2 = .ok (.getfield 69, 3) := by decide +kernel
theorem dX12_bareHigh_5 : decode cX12_bareHigh 5 = .ok (.iload_n 1, 1) := by decide +kernel
theorem dX12_bareHigh_6 : decode cX12_bareHigh 6 = .ok (.iload_n 2, 1) := by decide +kernel
theorem dX12_bareHigh_7 : decode cX12_bareHigh 7 = .ok (.invokestatic 244, 3) := by decide +kernel
theorem dX12_bareHigh_10 : decode cX12_bareHigh 10 = .ok (.iaload, 1) := by decide +kernel
theorem dX12_bareHigh_11 : decode cX12_bareHigh 11 = .ok (.aload_n 0, 1) := by decide +kernel
theorem dX12_bareHigh_12 : decode cX12_bareHigh 12 = .ok (.getfield 58, 3) := by decide +kernel
theorem dX12_bareHigh_15 : decode cX12_bareHigh 15 = .ok (.iload_n 1, 1) := by decide +kernel
theorem dX12_bareHigh_16 : decode cX12_bareHigh 16 = .ok (.iload_n 2, 1) := by decide +kernel
theorem dX12_bareHigh_17 : decode cX12_bareHigh 17 = .ok (.invokestatic 244, 3) := by decide +kernel
theorem dX12_bareHigh_20 : decode cX12_bareHigh 20 = .ok (.iaload, 1) := by decide +kernel
theorem dX12_bareHigh_21 : decode cX12_bareHigh 21 = .ok (.isub, 1) := by decide +kernel
theorem dX12_bareHigh_22 : decode cX12_bareHigh 22 = .ok (.aload_n 0, 1) := by decide +kernel
theorem dX12_bareHigh_23 : decode cX12_bareHigh 23 = .ok (.iload_n 1, 1) := by decide +kernel
theorem dX12_bareHigh_24 : decode cX12_bareHigh 24 = .ok (.iload_n 2, 1) := by decide +kernel
theorem dX12_bareHigh_25 : decode cX12_bareHigh 25 = .ok (.invokevirtual 313, 3) := by decide +kernel
theorem dX12_bareHigh_28 : decode cX12_bareHigh 28 = .ok (.isub, 1) := by decide +kernel
theorem dX12_bareHigh_29 : decode cX12_bareHigh 29 = .ok (.invokestatic 298, 3) := by decide +kernel
theorem dX12_bareHigh_32 : decode cX12_bareHigh 32 = .ok (.ireturn, 1) := by decide +kernel
theorem dX12_through_0 : decode cX12_through 0 = .ok (.iload_n 1, 1) := by decide +kernel
theorem dX12_through_1 : decode cX12_through 1 = .ok (.i2l, 1) := by decide +kernel
theorem dX12_through_2 : decode cX12_through 2 = .ok (.aload_n 0, 1) := by decide +kernel
theorem dX12_through_3 : decode cX12_through 3 = .ok (.getfield 87, 3) := by decide +kernel
theorem dX12_through_6 : decode cX12_through 6 = .ok (.iconst 1, 1) := by decide +kernel
theorem dX12_through_7 : decode cX12_through 7 = .ok (.iaload, 1) := by decide +kernel
theorem dX12_through_8 : decode cX12_through 8 = .ok (.i2l, 1) := by decide +kernel
theorem dX12_through_9 : decode cX12_through 9 = .ok (.lmul, 1) := by decide +kernel
theorem dX12_through_10 : decode cX12_through 10 = .ok (.ldc2_w 308, 3) := by decide +kernel
theorem dX12_through_13 : decode cX12_through 13 = .ok (.ldiv, 1) := by decide +kernel
theorem dX12_through_14 : decode cX12_through 14 = .ok (.l2i, 1) := by decide +kernel
theorem dX12_through_15 : decode cX12_through 15 = .ok (.ireturn, 1) := by decide +kernel
theorem dX12_undoneLow_0 : decode cX12_undoneLow 0 = .ok (.aload_n 0, 1) := by decide +kernel
theorem dX12_undoneLow_1 : decode cX12_undoneLow 1 = .ok (.iload_n 1, 1) := by decide +kernel
theorem dX12_undoneLow_2 : decode cX12_undoneLow 2 = .ok (.iload_n 2, 1) := by decide +kernel
theorem dX12_undoneLow_3 : decode cX12_undoneLow 3 = .ok (.invokevirtual 333, 3) := by decide +kernel
theorem dX12_undoneLow_6 : decode cX12_undoneLow 6 = .ok (.iload_n 3, 1) := by decide +kernel
theorem dX12_undoneLow_7 : decode cX12_undoneLow 7 = .ok (.iconst (-1), 1) := by decide +kernel
theorem dX12_undoneLow_8 : decode cX12_undoneLow 8 = .ok (.if_icmp .ne 7, 3) := by decide +kernel
theorem dX12_undoneLow_11 : decode cX12_undoneLow 11 = .ok (.iconst 0, 1) := by decide +kernel
theorem dX12_undoneLow_12 : decode cX12_undoneLow 12 = .ok (.goto 13, 3) := by decide +kernel
theorem dX12_undoneLow_15 : decode cX12_undoneLow 15 = .ok (.aload_n 0, 1) := by decide +kernel
theorem dX12_undoneLow_16 : decode cX12_undoneLow 16 = .ok (.aload_n 0, 1) := by decide +kernel
theorem dX12_undoneLow_17 : decode cX12_undoneLow 17 = .ok (.iload_n 1, 1) := by decide +kernel
theorem dX12_undoneLow_18 : decode cX12_undoneLow 18 = .ok (.iload_n 3, 1) := by decide +kernel
theorem dX12_undoneLow_19 : decode cX12_undoneLow 19 = .ok (.invokevirtual 336, 3) := by decide +kernel
theorem dX12_undoneLow_22 : decode cX12_undoneLow 22 = .ok (.invokevirtual 339, 3) := by decide +kernel
theorem dX12_undoneLow_25 : decode cX12_undoneLow 25 = .ok (.isub, 1) := by decide +kernel
theorem dX12_undoneLow_26 : decode cX12_undoneLow 26 = .ok (.aload_n 0, 1) := by decide +kernel
theorem dX12_undoneLow_27 : decode cX12_undoneLow 27 = .ok (.getfield 64, 3) := by decide +kernel
theorem dX12_undoneLow_30 : decode cX12_undoneLow 30 = .ok (.iload_n 1, 1) := by decide +kernel
theorem dX12_undoneLow_31 : decode cX12_undoneLow 31 = .ok (.iload_n 2, 1) := by decide +kernel
theorem dX12_undoneLow_32 : decode cX12_undoneLow 32 = .ok (.invokestatic 244, 3) := by decide +kernel
theorem dX12_undoneLow_35 : decode cX12_undoneLow 35 = .ok (.iaload, 1) := by decide +kernel
theorem dX12_undoneLow_36 : decode cX12_undoneLow 36 = .ok (.isub, 1) := by decide +kernel
theorem dX12_undoneLow_37 : decode cX12_undoneLow 37 = .ok (.ireturn, 1) := by decide +kernel
theorem dX12_undoneHigh_0 : decode cX12_undoneHigh 0 = .ok (.aload_n 0, 1) := by decide +kernel
theorem dX12_undoneHigh_1 : decode cX12_undoneHigh 1 = .ok (.iload_n 1, 1) := by decide +kernel
theorem dX12_undoneHigh_2 : decode cX12_undoneHigh 2 = .ok (.iload_n 2, 1) := by decide +kernel
theorem dX12_undoneHigh_3 : decode cX12_undoneHigh 3 = .ok (.invokevirtual 336, 3) := by decide +kernel
theorem dX12_undoneHigh_6 : decode cX12_undoneHigh 6 = .ok (.iload_n 3, 1) := by decide +kernel
theorem dX12_undoneHigh_7 : decode cX12_undoneHigh 7 = .ok (.iconst (-1), 1) := by decide +kernel
theorem dX12_undoneHigh_8 : decode cX12_undoneHigh 8 = .ok (.if_icmp .ne 7, 3) := by decide +kernel
theorem dX12_undoneHigh_11 : decode cX12_undoneHigh 11 = .ok (.iconst 0, 1) := by decide +kernel
theorem dX12_undoneHigh_12 : decode cX12_undoneHigh 12 = .ok (.goto 13, 3) := by decide +kernel
theorem dX12_undoneHigh_15 : decode cX12_undoneHigh 15 = .ok (.aload_n 0, 1) := by decide +kernel
theorem dX12_undoneHigh_16 : decode cX12_undoneHigh 16 = .ok (.aload_n 0, 1) := by decide +kernel
theorem dX12_undoneHigh_17 : decode cX12_undoneHigh 17 = .ok (.iload_n 1, 1) := by decide +kernel
theorem dX12_undoneHigh_18 : decode cX12_undoneHigh 18 = .ok (.iload_n 3, 1) := by decide +kernel
theorem dX12_undoneHigh_19 : decode cX12_undoneHigh 19 = .ok (.invokevirtual 333, 3) := by decide +kernel
theorem dX12_undoneHigh_22 : decode cX12_undoneHigh 22 = .ok (.invokevirtual 339, 3) := by decide +kernel
theorem dX12_undoneHigh_25 : decode cX12_undoneHigh 25 = .ok (.isub, 1) := by decide +kernel
theorem dX12_undoneHigh_26 : decode cX12_undoneHigh 26 = .ok (.aload_n 0, 1) := by decide +kernel
theorem dX12_undoneHigh_27 : decode cX12_undoneHigh 27 = .ok (.getfield 64, 3) := by decide +kernel
theorem dX12_undoneHigh_30 : decode cX12_undoneHigh 30 = .ok (.iload_n 1, 1) := by decide +kernel
theorem dX12_undoneHigh_31 : decode cX12_undoneHigh 31 = .ok (.iload_n 2, 1) := by decide +kernel
theorem dX12_undoneHigh_32 : decode cX12_undoneHigh 32 = .ok (.invokestatic 244, 3) := by decide +kernel
theorem dX12_undoneHigh_35 : decode cX12_undoneHigh 35 = .ok (.iaload, 1) := by decide +kernel
theorem dX12_undoneHigh_36 : decode cX12_undoneHigh 36 = .ok (.isub, 1) := by decide +kernel
theorem dX12_undoneHigh_37 : decode cX12_undoneHigh 37 = .ok (.ireturn, 1) := by decide +kernel
theorem dX12_turnsLow_0 : decode cX12_turnsLow 0 = .ok (.iconst 0, 1) := by decide +kernel
theorem dX12_turnsLow_1 : decode cX12_turnsLow 1 = .ok (.aload_n 0, 1) := by decide +kernel
theorem dX12_turnsLow_2 : decode cX12_turnsLow 2 = .ok (.iload_n 1, 1) := by decide +kernel
theorem dX12_turnsLow_3 : decode cX12_turnsLow 3 = .ok (.iload_n 2, 1) := by decide +kernel
theorem dX12_turnsLow_4 : decode cX12_turnsLow 4 = .ok (.iload_n 2, 1) := by decide +kernel
theorem dX12_turnsLow_5 : decode cX12_turnsLow 5 = .ok (.iconst 1, 1) := by decide +kernel
theorem dX12_turnsLow_6 : decode cX12_turnsLow 6 = .ok (.isub, 1) := by decide +kernel
theorem dX12_turnsLow_7 : decode cX12_turnsLow 7 = .ok (.invokevirtual 342, 3) := by decide +kernel
theorem dX12_turnsLow_10 : decode cX12_turnsLow 10 = .ok (.invokestatic 298, 3) := by decide +kernel
theorem dX12_turnsLow_13 : decode cX12_turnsLow 13 = .ok (.istore_n 3, 1) := by decide +kernel
theorem dX12_turnsLow_14 : decode cX12_turnsLow 14 = .ok (.iload_n 3, 1) := by decide +kernel
theorem dX12_turnsLow_15 : decode cX12_turnsLow 15 = .ok (.aload_n 0, 1) := by decide +kernel
theorem dX12_turnsLow_16 : decode cX12_turnsLow 16 = .ok (.getfield 87, 3) := by decide +kernel
theorem dX12_turnsLow_19 : decode cX12_turnsLow 19 = .ok (.iconst 0, 1) := by decide +kernel
theorem dX12_turnsLow_20 : decode cX12_turnsLow 20 = .ok (.iaload, 1) := by decide +kernel
theorem dX12_turnsLow_21 : decode cX12_turnsLow 21 = .ok (.iadd, 1) := by decide +kernel
theorem dX12_turnsLow_22 : decode cX12_turnsLow 22 = .ok (.iconst 1, 1) := by decide +kernel
theorem dX12_turnsLow_23 : decode cX12_turnsLow 23 = .ok (.isub, 1) := by decide +kernel
theorem dX12_turnsLow_24 : decode cX12_turnsLow 24 = .ok (.aload_n 0, 1) := by decide +kernel
theorem dX12_turnsLow_25 : decode cX12_turnsLow 25 = .ok (.getfield 87, 3) := by decide +kernel
theorem dX12_turnsLow_28 : decode cX12_turnsLow 28 = .ok (.iconst 0, 1) := by decide +kernel
theorem dX12_turnsLow_29 : decode cX12_turnsLow 29 = .ok (.iaload, 1) := by decide +kernel
theorem dX12_turnsLow_30 : decode cX12_turnsLow 30 = .ok (.idiv, 1) := by decide +kernel
theorem dX12_turnsLow_31 : decode cX12_turnsLow 31 = .ok (.ireturn, 1) := by decide +kernel
theorem dX12_turnsHigh_0 : decode cX12_turnsHigh 0 = .ok (.aload_n 0, 1) := by decide +kernel
theorem dX12_turnsHigh_1 : decode cX12_turnsHigh 1 = .ok (.iload_n 1, 1) := by decide +kernel
theorem dX12_turnsHigh_2 : decode cX12_turnsHigh 2 = .ok (.iload_n 2, 1) := by decide +kernel
theorem dX12_turnsHigh_3 : decode cX12_turnsHigh 3 = .ok (.iload_n 2, 1) := by decide +kernel
theorem dX12_turnsHigh_4 : decode cX12_turnsHigh 4 = .ok (.iconst 1, 1) := by decide +kernel
theorem dX12_turnsHigh_5 : decode cX12_turnsHigh 5 = .ok (.isub, 1) := by decide +kernel
theorem dX12_turnsHigh_6 : decode cX12_turnsHigh 6 = .ok (.invokevirtual 345, 3) := by decide +kernel
theorem dX12_turnsHigh_9 : decode cX12_turnsHigh 9 = .ok (.aload_n 0, 1) := by decide +kernel
theorem dX12_turnsHigh_10 : decode cX12_turnsHigh 10 = .ok (.getfield 87, 3) := by decide +kernel
theorem dX12_turnsHigh_13 : decode cX12_turnsHigh 13 = .ok (.iconst 0, 1) := by decide +kernel
theorem dX12_turnsHigh_14 : decode cX12_turnsHigh 14 = .ok (.iaload, 1) := by decide +kernel
theorem dX12_turnsHigh_15 : decode cX12_turnsHigh 15 = .ok (.invokestatic 348, 3) := by decide +kernel
theorem dX12_turnsHigh_18 : decode cX12_turnsHigh 18 = .ok (.ireturn, 1) := by decide +kernel
theorem dX12_isStrange_0 : decode cX12_isStrange 0 = .ok (.aload_n 0, 1) := by decide +kernel
theorem dX12_isStrange_1 : decode cX12_isStrange 1 = .ok (.iload_n 1, 1) := by decide +kernel
theorem dX12_isStrange_2 : decode cX12_isStrange 2 = .ok (.iload_n 2, 1) := by decide +kernel
theorem dX12_isStrange_3 : decode cX12_isStrange 3 = .ok (.invokevirtual 351, 3) := by decide +kernel
theorem dX12_isStrange_6 : decode cX12_isStrange 6 = .ok (.aload_n 0, 1) := by decide +kernel
theorem dX12_isStrange_7 : decode cX12_isStrange 7 = .ok (.iload_n 1, 1) := by decide +kernel
theorem dX12_isStrange_8 : decode cX12_isStrange 8 = .ok (.iload_n 2, 1) := by decide +kernel
theorem dX12_isStrange_9 : decode cX12_isStrange 9 = .ok (.invokevirtual 354, 3) := by decide +kernel
theorem dX12_isStrange_12 : decode cX12_isStrange 12 = .ok (.if_icmp .le 7, 3) := by decide +kernel
theorem dX12_isStrange_15 : decode cX12_isStrange 15 = .ok (.iconst 1, 1) := by decide +kernel
theorem dX12_isStrange_16 : decode cX12_isStrange 16 = .ok (.goto 4, 3) := by decide +kernel
theorem dX12_isStrange_19 : decode cX12_isStrange 19 = .ok (.iconst 0, 1) := by decide +kernel
theorem dX12_isStrange_20 : decode cX12_isStrange 20 = .ok (.ireturn, 1) := by decide +kernel
theorem dX12_midst_0 : decode cX12_midst 0 = .ok (.aload_n 0, 1) := by decide +kernel
theorem dX12_midst_1 : decode cX12_midst 1 = .ok (.iload_n 1, 1) := by decide +kernel
theorem dX12_midst_2 : decode cX12_midst 2 = .ok (.iload_n 2, 1) := by decide +kernel
theorem dX12_midst_3 : decode cX12_midst 3 = .ok (.invokevirtual 357, 3) := by decide +kernel
theorem dX12_midst_6 : decode cX12_midst 6 = .ok (.ifCond .eq 7, 3) := by decide +kernel
theorem dX12_midst_9 : decode cX12_midst 9 = .ok (.iconst 0, 1) := by decide +kernel
theorem dX12_midst_10 : decode cX12_midst 10 = .ok (.goto 16, 3) := by decide +kernel
theorem dX12_midst_13 : decode cX12_midst 13 = .ok (.aload_n 0, 1) := by decide +kernel
theorem dX12_midst_14 : decode cX12_midst 14 = .ok (.iload_n 1, 1) := by decide +kernel
theorem dX12_midst_15 : decode cX12_midst 15 = .ok (.iload_n 2, 1) := by decide +kernel
theorem dX12_midst_16 : decode cX12_midst 16 = .ok (.invokevirtual 351, 3) := by decide +kernel
theorem dX12_midst_19 : decode cX12_midst 19 = .ok (.aload_n 0, 1) := by decide +kernel
theorem dX12_midst_20 : decode cX12_midst 20 = .ok (.iload_n 1, 1) := by decide +kernel
theorem dX12_midst_21 : decode cX12_midst 21 = .ok (.iload_n 2, 1) := by decide +kernel
theorem dX12_midst_22 : decode cX12_midst 22 = .ok (.invokevirtual 354, 3) := by decide +kernel
theorem dX12_midst_25 : decode cX12_midst 25 = .ok (.iadd, 1) := by decide +kernel
theorem dX12_midst_26 : decode cX12_midst 26 = .ok (.ireturn, 1) := by decide +kernel
theorem dX12_isUndone_0 : decode cX12_isUndone 0 = .ok (.aload_n 0, 1) := by decide +kernel
theorem dX12_isUndone_1 : decode cX12_isUndone 1 = .ok (.getfield 66, 3) := by decide +kernel
theorem dX12_isUndone_4 : decode cX12_isUndone 4 = .ok (.iload_n 1, 1) := by decide +kernel
theorem dX12_isUndone_5 : decode cX12_isUndone 5 = .ok (.iload_n 2, 1) := by decide +kernel
theorem dX12_isUndone_6 : decode cX12_isUndone 6 = .ok (.invokestatic 244, 3) := by decide +kernel
theorem dX12_isUndone_9 : decode cX12_isUndone 9 = .ok (.iaload, 1) := by decide +kernel
theorem dX12_isUndone_10 : decode cX12_isUndone 10 = .ok (.iconst (-1), 1) := by decide +kernel
theorem dX12_isUndone_11 : decode cX12_isUndone 11 = .ok (.if_icmp .eq 27, 3) := by decide +kernel
theorem dX12_isUndone_14 : decode cX12_isUndone 14 = .ok (.iload_n 2, 1) := by decide +kernel
theorem dX12_isUndone_15 : decode cX12_isUndone 15 = .ok (.ifCond .eq 19, 3) := by decide +kernel
theorem dX12_isUndone_18 : decode cX12_isUndone 18 = .ok (.aload_n 0, 1) := by decide +kernel
theorem dX12_isUndone_19 : decode cX12_isUndone 19 = .ok (.getfield 66, 3) := by decide +kernel
theorem dX12_isUndone_22 : decode cX12_isUndone 22 = .ok (.iload_n 1, 1) := by decide +kernel
theorem dX12_isUndone_23 : decode cX12_isUndone 23 = .ok (.iload_n 2, 1) := by decide +kernel
theorem dX12_isUndone_24 : decode cX12_isUndone 24 = .ok (.iconst 1, 1) := by decide +kernel
theorem dX12_isUndone_25 : decode cX12_isUndone 25 = .ok (.isub, 1) := by decide +kernel
theorem dX12_isUndone_26 : decode cX12_isUndone 26 = .ok (.invokestatic 244, 3) := by decide +kernel
theorem dX12_isUndone_29 : decode cX12_isUndone 29 = .ok (.iaload, 1) := by decide +kernel
theorem dX12_isUndone_30 : decode cX12_isUndone 30 = .ok (.iconst (-1), 1) := by decide +kernel
theorem dX12_isUndone_31 : decode cX12_isUndone 31 = .ok (.if_icmp .eq 7, 3) := by decide +kernel
theorem dX12_isUndone_34 : decode cX12_isUndone 34 = .ok (.iconst 1, 1) := by decide +kernel
theorem dX12_isUndone_35 : decode cX12_isUndone 35 = .ok (.goto 4, 3) := by decide +kernel
theorem dX12_isUndone_38 : decode cX12_isUndone 38 = .ok (.iconst 0, 1) := by decide +kernel
theorem dX12_isUndone_39 : decode cX12_isUndone 39 = .ok (.ireturn, 1) := by decide +kernel
theorem dX12_bounds_0 : decode cX12_bounds 0 = .ok (.aload_n 0, 1) := by decide +kernel
theorem dX12_bounds_1 : decode cX12_bounds 1 = .ok (.iconst 0, 1) := by decide +kernel
theorem dX12_bounds_2 : decode cX12_bounds 2 = .ok (.putfield 158, 3) := by decide +kernel
theorem dX12_bounds_5 : decode cX12_bounds 5 = .ok (.aload_n 0, 1) := by decide +kernel
theorem dX12_bounds_6 : decode cX12_bounds 6 = .ok (.iload_n 1, 1) := by decide +kernel
theorem dX12_bounds_7 : decode cX12_bounds 7 = .ok (.iload_n 2, 1) := by decide +kernel
theorem dX12_bounds_8 : decode cX12_bounds 8 = .ok (.invokevirtual 294, 3) := by decide +kernel
theorem dX12_bounds_11 : decode cX12_bounds 11 = .ok (.ifCond .eq 44, 3) := by decide +kernel
theorem dX12_bounds_14 : decode cX12_bounds 14 = .ok (.iload_n 3, 1) := by decide +kernel
theorem dX12_bounds_15 : decode cX12_bounds 15 = .ok (.iconst 0, 1) := by decide +kernel
theorem dX12_bounds_16 : decode cX12_bounds 16 = .ok (.bipush 7, 2) := by decide +kernel
theorem dX12_bounds_18 : decode cX12_bounds 18 = .ok (.invokestatic 161, 3) := by decide +kernel
theorem dX12_bounds_21 : decode cX12_bounds 21 = .ok (.ifCond .eq 34, 3) := by decide +kernel
theorem dX12_bounds_24 : decode cX12_bounds 24 = .ok (.iload_n 3, 1) := by decide +kernel
theorem dX12_bounds_25 : decode cX12_bounds 25 = .ok (.iconst 2, 1) := by decide +kernel
theorem dX12_bounds_26 : decode cX12_bounds 26 = .ok (.if_icmp .ge 20, 3) := by decide +kernel
theorem dX12_bounds_29 : decode cX12_bounds 29 = .ok (.aload_n 0, 1) := by decide +kernel
theorem dX12_bounds_30 : decode cX12_bounds 30 = .ok (.getfield 66, 3) := by decide +kernel
theorem dX12_bounds_33 : decode cX12_bounds 33 = .ok (.iload_n 1, 1) := by decide +kernel
theorem dX12_bounds_34 : decode cX12_bounds 34 = .ok (.iload_n 2, 1) := by decide +kernel
theorem dX12_bounds_35 : decode cX12_bounds 35 = .ok (.invokestatic 244, 3) := by decide +kernel
theorem dX12_bounds_38 : decode cX12_bounds 38 = .ok (.iaload, 1) := by decide +kernel
theorem dX12_bounds_39 : decode cX12_bounds 39 = .ok (.iconst (-1), 1) := by decide +kernel
theorem dX12_bounds_40 : decode cX12_bounds 40 = .ok (.if_icmp .ne 21, 3) := by decide +kernel
theorem dX12_bounds_43 : decode cX12_bounds 43 = .ok (.goto 12, 3) := by decide +kernel
theorem dX12_bounds_46 : decode cX12_bounds 46 = .ok (.aload_n 0, 1) := by decide +kernel
theorem dX12_bounds_47 : decode cX12_bounds 47 = .ok (.iload_n 1, 1) := by decide +kernel
theorem dX12_bounds_48 : decode cX12_bounds 48 = .ok (.iload_n 2, 1) := by decide +kernel
theorem dX12_bounds_49 : decode cX12_bounds 49 = .ok (.invokevirtual 360, 3) := by decide +kernel
theorem dX12_bounds_52 : decode cX12_bounds 52 = .ok (.ifCond .ne 9, 3) := by decide +kernel
theorem dX12_bounds_55 : decode cX12_bounds 55 = .ok (.aload_n 0, 1) := by decide +kernel
theorem dX12_bounds_56 : decode cX12_bounds 56 = .ok (.iconst 1, 1) := by decide +kernel
theorem dX12_bounds_57 : decode cX12_bounds 57 = .ok (.invokevirtual 263, 3) := by decide +kernel
theorem dX12_bounds_60 : decode cX12_bounds 60 = .ok (.ireturn, 1) := by decide +kernel
theorem dX12_bounds_61 : decode cX12_bounds 61 = .ok (.iload_n 3, 1) := by decide +kernel
theorem dX12_bounds_62 : decode cX12_bounds 62 = .ok (.tableswitch 105 0 6 #[42, 53, 64, 74, 84, 91, 98], 42) := by decide +kernel
theorem dX12_bounds_104 : decode cX12_bounds 104 = .ok (.aload_n 0, 1) := by decide +kernel
theorem dX12_bounds_105 : decode cX12_bounds 105 = .ok (.getfield 66, 3) := by decide +kernel
theorem dX12_bounds_108 : decode cX12_bounds 108 = .ok (.iload_n 1, 1) := by decide +kernel
theorem dX12_bounds_109 : decode cX12_bounds 109 = .ok (.iload_n 2, 1) := by decide +kernel
theorem dX12_bounds_110 : decode cX12_bounds 110 = .ok (.invokestatic 244, 3) := by decide +kernel
theorem dX12_bounds_113 : decode cX12_bounds 113 = .ok (.iaload, 1) := by decide +kernel
theorem dX12_bounds_114 : decode cX12_bounds 114 = .ok (.ireturn, 1) := by decide +kernel
theorem dX12_bounds_115 : decode cX12_bounds 115 = .ok (.aload_n 0, 1) := by decide +kernel
theorem dX12_bounds_116 : decode cX12_bounds 116 = .ok (.getfield 69, 3) := by decide +kernel
theorem dX12_bounds_119 : decode cX12_bounds 119 = .ok (.iload_n 1, 1) := by decide +kernel
theorem dX12_bounds_120 : decode cX12_bounds 120 = .ok (.iload_n 2, 1) := by decide +kernel
theorem dX12_bounds_121 : decode cX12_bounds 121 = .ok (.invokestatic 244, 3) := by decide +kernel
theorem dX12_bounds_124 : decode cX12_bounds 124 = .ok (.iaload, 1) := by decide +kernel
theorem dX12_bounds_125 : decode cX12_bounds 125 = .ok (.ireturn, 1) := by decide +kernel
theorem dX12_bounds_126 : decode cX12_bounds 126 = .ok (.aload_n 0, 1) := by decide +kernel
theorem dX12_bounds_127 : decode cX12_bounds 127 = .ok (.iload_n 1, 1) := by decide +kernel
theorem dX12_bounds_128 : decode cX12_bounds 128 = .ok (.iload_n 2, 1) := by decide +kernel
theorem dX12_bounds_129 : decode cX12_bounds 129 = .ok (.iload_n 2, 1) := by decide +kernel
theorem dX12_bounds_130 : decode cX12_bounds 130 = .ok (.iconst 1, 1) := by decide +kernel
theorem dX12_bounds_131 : decode cX12_bounds 131 = .ok (.isub, 1) := by decide +kernel
theorem dX12_bounds_132 : decode cX12_bounds 132 = .ok (.invokevirtual 342, 3) := by decide +kernel
theorem dX12_bounds_135 : decode cX12_bounds 135 = .ok (.ireturn, 1) := by decide +kernel
theorem dX12_bounds_136 : decode cX12_bounds 136 = .ok (.aload_n 0, 1) := by decide +kernel
theorem dX12_bounds_137 : decode cX12_bounds 137 = .ok (.iload_n 1, 1) := by decide +kernel
theorem dX12_bounds_138 : decode cX12_bounds 138 = .ok (.iload_n 2, 1) := by decide +kernel
theorem dX12_bounds_139 : decode cX12_bounds 139 = .ok (.iload_n 2, 1) := by decide +kernel
theorem dX12_bounds_140 : decode cX12_bounds 140 = .ok (.iconst 1, 1) := by decide +kernel
theorem dX12_bounds_141 : decode cX12_bounds 141 = .ok (.isub, 1) := by decide +kernel
theorem dX12_bounds_142 : decode cX12_bounds 142 = .ok (.invokevirtual 345, 3) := by decide +kernel
theorem dX12_bounds_145 : decode cX12_bounds 145 = .ok (.ireturn, 1) := by decide +kernel
theorem dX12_bounds_146 : decode cX12_bounds 146 = .ok (.aload_n 0, 1) := by decide +kernel
theorem dX12_bounds_147 : decode cX12_bounds 147 = .ok (.iload_n 1, 1) := by decide +kernel
theorem dX12_bounds_148 : decode cX12_bounds 148 = .ok (.iload_n 2, 1) := by decide +kernel
theorem dX12_bounds_149 : decode cX12_bounds 149 = .ok (.invokevirtual 351, 3) := by decide +kernel
theorem dX12_bounds_152 : decode cX12_bounds 152 = .ok (.ireturn, 1) := by decide +kernel
theorem dX12_bounds_153 : decode cX12_bounds 153 = .ok (.aload_n 0, 1) := by decide +kernel
theorem dX12_bounds_154 : decode cX12_bounds 154 = .ok (.iload_n 1, 1) := by decide +kernel
theorem dX12_bounds_155 : decode cX12_bounds 155 = .ok (.iload_n 2, 1) := by decide +kernel
theorem dX12_bounds_156 : decode cX12_bounds 156 = .ok (.invokevirtual 354, 3) := by decide +kernel
theorem dX12_bounds_159 : decode cX12_bounds 159 = .ok (.ireturn, 1) := by decide +kernel
theorem dX12_bounds_160 : decode cX12_bounds 160 = .ok (.aload_n 0, 1) := by decide +kernel
theorem dX12_bounds_161 : decode cX12_bounds 161 = .ok (.iload_n 1, 1) := by decide +kernel
theorem dX12_bounds_162 : decode cX12_bounds 162 = .ok (.iload_n 2, 1) := by decide +kernel
theorem dX12_bounds_163 : decode cX12_bounds 163 = .ok (.invokevirtual 363, 3) := by decide +kernel
theorem dX12_bounds_166 : decode cX12_bounds 166 = .ok (.ireturn, 1) := by decide +kernel
theorem dX12_bounds_167 : decode cX12_bounds 167 = .ok (.aload_n 0, 1) := by decide +kernel
theorem dX12_bounds_168 : decode cX12_bounds 168 = .ok (.iload_n 1, 1) := by decide +kernel
theorem dX12_bounds_169 : decode cX12_bounds 169 = .ok (.iload_n 2, 1) := by decide +kernel
theorem dX12_bounds_170 : decode cX12_bounds 170 = .ok (.invokevirtual 357, 3) := by decide +kernel
theorem dX12_bounds_173 : decode cX12_bounds 173 = .ok (.ifCond .eq 7, 3) := by decide +kernel
theorem dX12_bounds_176 : decode cX12_bounds 176 = .ok (.iconst 1, 1) := by decide +kernel
theorem dX12_bounds_177 : decode cX12_bounds 177 = .ok (.goto 4, 3) := by decide +kernel
theorem dX12_bounds_180 : decode cX12_bounds 180 = .ok (.iconst 0, 1) := by decide +kernel
theorem dX12_bounds_181 : decode cX12_bounds 181 = .ok (.ireturn, 1) := by decide +kernel
theorem dX12_isAsked_0 : decode cX12_isAsked 0 = .ok (.iload_n 1, 1) := by decide +kernel
theorem dX12_isAsked_1 : decode cX12_isAsked 1 = .ok (.invokestatic 165, 3) := by decide +kernel
theorem dX12_isAsked_4 : decode cX12_isAsked 4 = .ok (.ifCond .eq 15, 3) := by decide +kernel
theorem dX12_isAsked_7 : decode cX12_isAsked 7 = .ok (.aload_n 0, 1) := by decide +kernel
theorem dX12_isAsked_8 : decode cX12_isAsked 8 = .ok (.iload_n 1, 1) := by decide +kernel
theorem dX12_isAsked_9 : decode cX12_isAsked 9 = .ok (.invokevirtual 288, 3) := by decide +kernel
theorem dX12_isAsked_12 : decode cX12_isAsked 12 = .ok (.ifCond .eq 7, 3) := by decide +kernel
theorem dX12_isAsked_15 : decode cX12_isAsked 15 = .ok (.iconst 1, 1) := by decide +kernel
theorem dX12_isAsked_16 : decode cX12_isAsked 16 = .ok (.goto 4, 3) := by decide +kernel
theorem dX12_isAsked_19 : decode cX12_isAsked 19 = .ok (.iconst 0, 1) := by decide +kernel
theorem dX12_isAsked_20 : decode cX12_isAsked 20 = .ok (.ireturn, 1) := by decide +kernel
theorem dX12_has_0 : decode cX12_has 0 = .ok (.iload_n 2, 1) := by decide +kernel
theorem dX12_has_1 : decode cX12_has 1 = .ok (.iconst 0, 1) := by decide +kernel
theorem dX12_has_2 : decode cX12_has 2 = .ok (.bipush 11, 2) := by decide +kernel
theorem dX12_has_4 : decode cX12_has 4 = .ok (.invokestatic 161, 3) := by decide +kernel
theorem dX12_has_7 : decode cX12_has 7 = .ok (.ifCond .eq 20, 3) := by decide +kernel
theorem dX12_has_10 : decode cX12_has 10 = .ok (.aload_n 0, 1) := by decide +kernel
theorem dX12_has_11 : decode cX12_has 11 = .ok (.iload_n 1, 1) := by decide +kernel
theorem dX12_has_12 : decode cX12_has 12 = .ok (.invokevirtual 291, 3) := by decide +kernel
theorem dX12_has_15 : decode cX12_has 15 = .ok (.iload_n 2, 1) := by decide +kernel
theorem dX12_has_16 : decode cX12_has 16 = .ok (.ishr, 1) := by decide +kernel
theorem dX12_has_17 : decode cX12_has 17 = .ok (.iconst 1, 1) := by decide +kernel
theorem dX12_has_18 : decode cX12_has 18 = .ok (.iand, 1) := by decide +kernel
theorem dX12_has_19 : decode cX12_has 19 = .ok (.iconst 1, 1) := by decide +kernel
theorem dX12_has_20 : decode cX12_has 20 = .ok (.if_icmp .ne 7, 3) := by decide +kernel
theorem dX12_has_23 : decode cX12_has 23 = .ok (.iconst 1, 1) := by decide +kernel
theorem dX12_has_24 : decode cX12_has 24 = .ok (.goto 4, 3) := by decide +kernel
theorem dX12_has_27 : decode cX12_has 27 = .ok (.iconst 0, 1) := by decide +kernel
theorem dX12_has_28 : decode cX12_has 28 = .ok (.ireturn, 1) := by decide +kernel
theorem dX12_leavesOf_0 : decode cX12_leavesOf 0 = .ok (.iconst 0, 1) := by decide +kernel
theorem dX12_leavesOf_1 : decode cX12_leavesOf 1 = .ok (.istore_n 3, 1) := by decide +kernel
theorem dX12_leavesOf_2 : decode cX12_leavesOf 2 = .ok (.iconst 0, 1) := by decide +kernel
theorem dX12_leavesOf_3 : decode cX12_leavesOf 3 = .ok (.istore 4, 2) := by decide +kernel
theorem dX12_leavesOf_5 : decode cX12_leavesOf 5 = .ok (.iload 4, 2) := by decide +kernel
theorem dX12_leavesOf_7 : decode cX12_leavesOf 7 = .ok (.aload_n 0, 1) := by decide +kernel
theorem dX12_leavesOf_8 : decode cX12_leavesOf 8 = .ok (.getfield 32, 3) := by decide +kernel
theorem dX12_leavesOf_11 : decode cX12_leavesOf 11 = .ok (.iload_n 1, 1) := by decide +kernel
theorem dX12_leavesOf_12 : decode cX12_leavesOf 12 = .ok (.iaload, 1) := by decide +kernel
theorem dX12_leavesOf_13 : decode cX12_leavesOf 13 = .ok (.if_icmp .ge 32, 3) := by decide +kernel
theorem dX12_leavesOf_16 : decode cX12_leavesOf 16 = .ok (.iload_n 3, 1) := by decide +kernel
theorem dX12_leavesOf_17 : decode cX12_leavesOf 17 = .ok (.aload_n 0, 1) := by decide +kernel
theorem dX12_leavesOf_18 : decode cX12_leavesOf 18 = .ok (.getfield 50, 3) := by decide +kernel
theorem dX12_leavesOf_21 : decode cX12_leavesOf 21 = .ok (.iload_n 1, 1) := by decide +kernel
theorem dX12_leavesOf_22 : decode cX12_leavesOf 22 = .ok (.iload 4, 2) := by decide +kernel
theorem dX12_leavesOf_24 : decode cX12_leavesOf 24 = .ok (.invokestatic 244, 3) := by decide +kernel
theorem dX12_leavesOf_27 : decode cX12_leavesOf 27 = .ok (.iaload, 1) := by decide +kernel
theorem dX12_leavesOf_28 : decode cX12_leavesOf 28 = .ok (.iload_n 2, 1) := by decide +kernel
theorem dX12_leavesOf_29 : decode cX12_leavesOf 29 = .ok (.if_icmp .ne 7, 3) := by decide +kernel
theorem dX12_leavesOf_32 : decode cX12_leavesOf 32 = .ok (.iconst 1, 1) := by decide +kernel
theorem dX12_leavesOf_33 : decode cX12_leavesOf 33 = .ok (.goto 4, 3) := by decide +kernel
theorem dX12_leavesOf_36 : decode cX12_leavesOf 36 = .ok (.iconst 0, 1) := by decide +kernel
theorem dX12_leavesOf_37 : decode cX12_leavesOf 37 = .ok (.iadd, 1) := by decide +kernel
theorem dX12_leavesOf_38 : decode cX12_leavesOf 38 = .ok (.istore_n 3, 1) := by decide +kernel
theorem dX12_leavesOf_39 : decode cX12_leavesOf 39 = .ok (.iinc 4 1, 3) := by decide +kernel
theorem dX12_leavesOf_42 : decode cX12_leavesOf 42 = .ok (.goto (-37), 3) := by decide +kernel
theorem dX12_leavesOf_45 : decode cX12_leavesOf 45 = .ok (.iload_n 3, 1) := by decide +kernel
theorem dX12_leavesOf_46 : decode cX12_leavesOf 46 = .ok (.ireturn, 1) := by decide +kernel
theorem dX12_lightOf_0 : decode cX12_lightOf 0 = .ok (.lconst 0, 1) := by decide +kernel
theorem dX12_lightOf_1 : decode cX12_lightOf 1 = .ok (.lstore_n 3, 1) := by decide +kernel
theorem dX12_lightOf_2 : decode cX12_lightOf 2 = .ok (.iconst 0, 1) := by decide +kernel
theorem dX12_lightOf_3 : decode cX12_lightOf 3 = .ok (.istore 5, 2) := by decide +kernel
theorem dX12_lightOf_5 : decode cX12_lightOf 5 = .ok (.iload 5, 2) := by decide +kernel
theorem dX12_lightOf_7 : decode cX12_lightOf 7 = .ok (.aload_n 0, 1) := by decide +kernel
theorem dX12_lightOf_8 : decode cX12_lightOf 8 = .ok (.getfield 32, 3) := by decide +kernel
theorem dX12_lightOf_11 : decode cX12_lightOf 11 = .ok (.iload_n 1, 1) := by decide +kernel
theorem dX12_lightOf_12 : decode cX12_lightOf 12 = .ok (.iaload, 1) := by decide +kernel
theorem dX12_lightOf_13 : decode cX12_lightOf 13 = .ok (.if_icmp .ge 39, 3) := by decide +kernel
theorem dX12_lightOf_16 : decode cX12_lightOf 16 = .ok (.lload_n 3, 1) := by decide +kernel
theorem dX12_lightOf_17 : decode cX12_lightOf 17 = .ok (.aload_n 0, 1) := by decide +kernel
theorem dX12_lightOf_18 : decode cX12_lightOf 18 = .ok (.getfield 50, 3) := by decide +kernel
theorem dX12_lightOf_21 : decode cX12_lightOf 21 = .ok (.iload_n 1, 1) := by decide +kernel
theorem dX12_lightOf_22 : decode cX12_lightOf 22 = .ok (.iload 5, 2) := by decide +kernel
theorem dX12_lightOf_24 : decode cX12_lightOf 24 = .ok (.invokestatic 244, 3) := by decide +kernel
theorem dX12_lightOf_27 : decode cX12_lightOf 27 = .ok (.iaload, 1) := by decide +kernel
theorem dX12_lightOf_28 : decode cX12_lightOf 28 = .ok (.iload_n 2, 1) := by decide +kernel
theorem dX12_lightOf_29 : decode cX12_lightOf 29 = .ok (.if_icmp .ne 14, 3) := by decide +kernel
theorem dX12_lightOf_32 : decode cX12_lightOf 32 = .ok (.aload_n 0, 1) := by decide +kernel
theorem dX12_lightOf_33 : decode cX12_lightOf 33 = .ok (.iload_n 1, 1) := by decide +kernel
theorem dX12_lightOf_34 : decode cX12_lightOf 34 = .ok (.iload 5, 2) := by decide +kernel
theorem dX12_lightOf_36 : decode cX12_lightOf 36 = .ok (.invokevirtual 363, 3) := by decide +kernel
theorem dX12_lightOf_39 : decode cX12_lightOf 39 = .ok (.i2l, 1) := by decide +kernel
theorem dX12_lightOf_40 : decode cX12_lightOf 40 = .ok (.goto 4, 3) := by decide +kernel
theorem dX12_lightOf_43 : decode cX12_lightOf 43 = .ok (.lconst 0, 1) := by decide +kernel
theorem dX12_lightOf_44 : decode cX12_lightOf 44 = .ok (.ladd, 1) := by decide +kernel
theorem dX12_lightOf_45 : decode cX12_lightOf 45 = .ok (.lstore_n 3, 1) := by decide +kernel
theorem dX12_lightOf_46 : decode cX12_lightOf 46 = .ok (.iinc 5 1, 3) := by decide +kernel
theorem dX12_lightOf_49 : decode cX12_lightOf 49 = .ok (.goto (-44), 3) := by decide +kernel
theorem dX12_lightOf_52 : decode cX12_lightOf 52 = .ok (.lload_n 3, 1) := by decide +kernel
theorem dX12_lightOf_53 : decode cX12_lightOf 53 = .ok (.ldc2_w 366, 3) := by decide +kernel
theorem dX12_lightOf_56 : decode cX12_lightOf 56 = .ok (.aload_n 0, 1) := by decide +kernel
theorem dX12_lightOf_57 : decode cX12_lightOf 57 = .ok (.iload_n 1, 1) := by decide +kernel
theorem dX12_lightOf_58 : decode cX12_lightOf 58 = .ok (.iload_n 2, 1) := by decide +kernel
theorem dX12_lightOf_59 : decode cX12_lightOf 59 = .ok (.invokevirtual 368, 3) := by decide +kernel
theorem dX12_lightOf_62 : decode cX12_lightOf 62 = .ok (.i2l, 1) := by decide +kernel
theorem dX12_lightOf_63 : decode cX12_lightOf 63 = .ok (.lmul, 1) := by decide +kernel
theorem dX12_lightOf_64 : decode cX12_lightOf 64 = .ok (.ldiv, 1) := by decide +kernel
theorem dX12_lightOf_65 : decode cX12_lightOf 65 = .ok (.l2i, 1) := by decide +kernel
theorem dX12_lightOf_66 : decode cX12_lightOf 66 = .ok (.ireturn, 1) := by decide +kernel
theorem dX12_light_0 : decode cX12_light 0 = .ok (.aload_n 0, 1) := by decide +kernel
theorem dX12_light_1 : decode cX12_light 1 = .ok (.iconst 0, 1) := by decide +kernel
theorem dX12_light_2 : decode cX12_light 2 = .ok (.putfield 158, 3) := by decide +kernel
theorem dX12_light_5 : decode cX12_light 5 = .ok (.aload_n 0, 1) := by decide +kernel
theorem dX12_light_6 : decode cX12_light 6 = .ok (.iload_n 1, 1) := by decide +kernel
theorem dX12_light_7 : decode cX12_light 7 = .ok (.invokevirtual 371, 3) := by decide +kernel
theorem dX12_light_10 : decode cX12_light 10 = .ok (.ifCond .eq 21, 3) := by decide +kernel
theorem dX12_light_13 : decode cX12_light 13 = .ok (.aload_n 0, 1) := by decide +kernel
theorem dX12_light_14 : decode cX12_light 14 = .ok (.iload_n 1, 1) := by decide +kernel
theorem dX12_light_15 : decode cX12_light 15 = .ok (.iload_n 2, 1) := by decide +kernel
theorem dX12_light_16 : decode cX12_light 16 = .ok (.invokevirtual 374, 3) := by decide +kernel
theorem dX12_light_19 : decode cX12_light 19 = .ok (.ifCond .eq 12, 3) := by decide +kernel
theorem dX12_light_22 : decode cX12_light 22 = .ok (.aload_n 0, 1) := by decide +kernel
theorem dX12_light_23 : decode cX12_light 23 = .ok (.iload_n 1, 1) := by decide +kernel
theorem dX12_light_24 : decode cX12_light 24 = .ok (.iload_n 2, 1) := by decide +kernel
theorem dX12_light_25 : decode cX12_light 25 = .ok (.invokevirtual 377, 3) := by decide +kernel
theorem dX12_light_28 : decode cX12_light 28 = .ok (.goto 8, 3) := by decide +kernel
theorem dX12_light_31 : decode cX12_light 31 = .ok (.aload_n 0, 1) := by decide +kernel
theorem dX12_light_32 : decode cX12_light 32 = .ok (.iconst 1, 1) := by decide +kernel
theorem dX12_light_33 : decode cX12_light 33 = .ok (.invokevirtual 263, 3) := by decide +kernel
theorem dX12_light_36 : decode cX12_light 36 = .ok (.ireturn, 1) := by decide +kernel
theorem dX12_pairs_0 : decode cX12_pairs 0 = .ok (.iconst 0, 1) := by decide +kernel
theorem dX12_pairs_1 : decode cX12_pairs 1 = .ok (.istore_n 3, 1) := by decide +kernel
theorem dX12_pairs_2 : decode cX12_pairs 2 = .ok (.iconst 0, 1) := by decide +kernel
theorem dX12_pairs_3 : decode cX12_pairs 3 = .ok (.istore 4, 2) := by decide +kernel
theorem dX12_pairs_5 : decode cX12_pairs 5 = .ok (.iload 4, 2) := by decide +kernel
theorem dX12_pairs_7 : decode cX12_pairs 7 = .ok (.aload_n 0, 1) := by decide +kernel
theorem dX12_pairs_8 : decode cX12_pairs 8 = .ok (.getfield 32, 3) := by decide +kernel
theorem dX12_pairs_11 : decode cX12_pairs 11 = .ok (.iload_n 1, 1) := by decide +kernel
theorem dX12_pairs_12 : decode cX12_pairs 12 = .ok (.iaload, 1) := by decide +kernel
theorem dX12_pairs_13 : decode cX12_pairs 13 = .ok (.if_icmp .ge 99, 3) := by decide +kernel
theorem dX12_pairs_16 : decode cX12_pairs 16 = .ok (.iload 4, 2) := by decide +kernel
theorem dX12_pairs_18 : decode cX12_pairs 18 = .ok (.iconst 1, 1) := by decide +kernel
theorem dX12_pairs_19 : decode cX12_pairs 19 = .ok (.iadd, 1) := by decide +kernel
theorem dX12_pairs_20 : decode cX12_pairs 20 = .ok (.istore 5, 2) := by decide +kernel
theorem dX12_pairs_22 : decode cX12_pairs 22 = .ok (.iload 5, 2) := by decide +kernel
theorem dX12_pairs_24 : decode cX12_pairs 24 = .ok (.aload_n 0, 1) := by decide +kernel
theorem dX12_pairs_25 : decode cX12_pairs 25 = .ok (.getfield 32, 3) := by decide +kernel
theorem dX12_pairs_28 : decode cX12_pairs 28 = .ok (.iload_n 1, 1) := by decide +kernel
theorem dX12_pairs_29 : decode cX12_pairs 29 = .ok (.iaload, 1) := by decide +kernel
theorem dX12_pairs_30 : decode cX12_pairs 30 = .ok (.if_icmp .ge 76, 3) := by decide +kernel
theorem dX12_pairs_33 : decode cX12_pairs 33 = .ok (.aload_n 0, 1) := by decide +kernel
theorem dX12_pairs_34 : decode cX12_pairs 34 = .ok (.iload_n 1, 1) := by decide +kernel
theorem dX12_pairs_35 : decode cX12_pairs 35 = .ok (.iload 5, 2) := by decide +kernel
theorem dX12_pairs_37 : decode cX12_pairs 37 = .ok (.invokevirtual 363, 3) := by decide +kernel
theorem dX12_pairs_40 : decode cX12_pairs 40 = .ok (.aload_n 0, 1) := by decide +kernel
theorem dX12_pairs_41 : decode cX12_pairs 41 = .ok (.iload_n 1, 1) := by decide +kernel
theorem dX12_pairs_42 : decode cX12_pairs 42 = .ok (.iload 4, 2) := by decide +kernel
theorem dX12_pairs_44 : decode cX12_pairs 44 = .ok (.invokevirtual 363, 3) := by decide +kernel
theorem dX12_pairs_47 : decode cX12_pairs 47 = .ok (.isub, 1) := by decide +kernel
theorem dX12_pairs_48 : decode cX12_pairs 48 = .ok (.istore 6, 2) := by decide +kernel
theorem dX12_pairs_50 : decode cX12_pairs 50 = .ok (.iload_n 3, 1) := by decide +kernel
theorem dX12_pairs_51 : decode cX12_pairs 51 = .ok (.aload_n 0, 1) := by decide +kernel
theorem dX12_pairs_52 : decode cX12_pairs 52 = .ok (.getfield 53, 3) := by decide +kernel
theorem dX12_pairs_55 : decode cX12_pairs 55 = .ok (.iload_n 1, 1) := by decide +kernel
theorem dX12_pairs_56 : decode cX12_pairs 56 = .ok (.iload 4, 2) := by decide +kernel
theorem dX12_pairs_58 : decode cX12_pairs 58 = .ok (.invokestatic 244, 3) := by decide +kernel
theorem dX12_pairs_61 : decode cX12_pairs 61 = .ok (.iaload, 1) := by decide +kernel
theorem dX12_pairs_62 : decode cX12_pairs 62 = .ok (.aload_n 0, 1) := by decide +kernel
theorem dX12_pairs_63 : decode cX12_pairs 63 = .ok (.getfield 53, 3) := by decide +kernel
theorem dX12_pairs_66 : decode cX12_pairs 66 = .ok (.iload_n 1, 1) := by decide +kernel
theorem dX12_pairs_67 : decode cX12_pairs 67 = .ok (.iload 5, 2) := by decide +kernel
theorem dX12_pairs_69 : decode cX12_pairs 69 = .ok (.invokestatic 244, 3) := by decide +kernel
theorem dX12_pairs_72 : decode cX12_pairs 72 = .ok (.iaload, 1) := by decide +kernel
theorem dX12_pairs_73 : decode cX12_pairs 73 = .ok (.if_icmp .ne 24, 3) := by decide +kernel
theorem dX12_pairs_76 : decode cX12_pairs 76 = .ok (.iload_n 2, 1) := by decide +kernel
theorem dX12_pairs_77 : decode cX12_pairs 77 = .ok (.ifCond .ge 11, 3) := by decide +kernel
theorem dX12_pairs_80 : decode cX12_pairs 80 = .ok (.iload 6, 2) := by decide +kernel
theorem dX12_pairs_82 : decode cX12_pairs 82 = .ok (.ifCond .ge 15, 3) := by decide +kernel
theorem dX12_pairs_85 : decode cX12_pairs 85 = .ok (.goto 8, 3) := by decide +kernel
theorem dX12_pairs_88 : decode cX12_pairs 88 = .ok (.iload 6, 2) := by decide +kernel
theorem dX12_pairs_90 : decode cX12_pairs 90 = .ok (.ifCond .le 7, 3) := by decide +kernel
theorem dX12_pairs_93 : decode cX12_pairs 93 = .ok (.iconst 1, 1) := by decide +kernel
theorem dX12_pairs_94 : decode cX12_pairs 94 = .ok (.goto 4, 3) := by decide +kernel
theorem dX12_pairs_97 : decode cX12_pairs 97 = .ok (.iconst 0, 1) := by decide +kernel
theorem dX12_pairs_98 : decode cX12_pairs 98 = .ok (.iadd, 1) := by decide +kernel
theorem dX12_pairs_99 : decode cX12_pairs 99 = .ok (.istore_n 3, 1) := by decide +kernel
theorem dX12_pairs_100 : decode cX12_pairs 100 = .ok (.iinc 5 1, 3) := by decide +kernel
theorem dX12_pairs_103 : decode cX12_pairs 103 = .ok (.goto (-81), 3) := by decide +kernel
theorem dX12_pairs_106 : decode cX12_pairs 106 = .ok (.iinc 4 1, 3) := by decide +kernel
theorem dX12_pairs_109 : decode cX12_pairs 109 = .ok (.goto (-104), 3) := by decide +kernel
theorem dX12_pairs_112 : decode cX12_pairs 112 = .ok (.iload_n 3, 1) := by decide +kernel
theorem dX12_pairs_113 : decode cX12_pairs 113 = .ok (.ireturn, 1) := by decide +kernel
theorem dX12_chanceOf_0 : decode cX12_chanceOf 0 = .ok (.iconst 0, 1) := by decide +kernel
theorem dX12_chanceOf_1 : decode cX12_chanceOf 1 = .ok (.istore_n 3, 1) := by decide +kernel
theorem dX12_chanceOf_2 : decode cX12_chanceOf 2 = .ok (.iconst 0, 1) := by decide +kernel
theorem dX12_chanceOf_3 : decode cX12_chanceOf 3 = .ok (.istore 4, 2) := by decide +kernel
theorem dX12_chanceOf_5 : decode cX12_chanceOf 5 = .ok (.iload 4, 2) := by decide +kernel
theorem dX12_chanceOf_7 : decode cX12_chanceOf 7 = .ok (.aload_n 0, 1) := by decide +kernel
theorem dX12_chanceOf_8 : decode cX12_chanceOf 8 = .ok (.getfield 115, 3) := by decide +kernel
theorem dX12_chanceOf_11 : decode cX12_chanceOf 11 = .ok (.arraylength, 1) := by decide +kernel
theorem dX12_chanceOf_12 : decode cX12_chanceOf 12 = .ok (.if_icmp .ge 17, 3) := by decide +kernel
theorem dX12_chanceOf_15 : decode cX12_chanceOf 15 = .ok (.aload_n 0, 1) := by decide +kernel
theorem dX12_chanceOf_16 : decode cX12_chanceOf 16 = .ok (.getfield 115, 3) := by decide +kernel
theorem dX12_chanceOf_19 : decode cX12_chanceOf 19 = .ok (.iload 4, 2) := by decide +kernel
theorem dX12_chanceOf_21 : decode cX12_chanceOf 21 = .ok (.lconst 0, 1) := by decide +kernel
theorem dX12_chanceOf_22 : decode cX12_chanceOf 22 = .ok (.lastore, 1) := by decide +kernel
theorem dX12_chanceOf_23 : decode cX12_chanceOf 23 = .ok (.iinc 4 1, 3) := by decide +kernel
theorem dX12_chanceOf_26 : decode cX12_chanceOf 26 = .ok (.goto (-21), 3) := by decide +kernel
theorem dX12_chanceOf_29 : decode cX12_chanceOf 29 = .ok (.aload_n 0, 1) := by decide +kernel
theorem dX12_chanceOf_30 : decode cX12_chanceOf 30 = .ok (.getfield 115, 3) := by decide +kernel
theorem dX12_chanceOf_33 : decode cX12_chanceOf 33 = .ok (.iconst 0, 1) := by decide +kernel
theorem dX12_chanceOf_34 : decode cX12_chanceOf 34 = .ok (.ldc2_w 380, 3) := by decide +kernel
theorem dX12_chanceOf_37 : decode cX12_chanceOf 37 = .ok (.lastore, 1) := by decide +kernel
theorem dX12_chanceOf_38 : decode cX12_chanceOf 38 = .ok (.iconst 0, 1) := by decide +kernel
theorem dX12_chanceOf_39 : decode cX12_chanceOf 39 = .ok (.istore 4, 2) := by decide +kernel
theorem dX12_chanceOf_41 : decode cX12_chanceOf 41 = .ok (.iload 4, 2) := by decide +kernel
theorem dX12_chanceOf_43 : decode cX12_chanceOf 43 = .ok (.aload_n 0, 1) := by decide +kernel
theorem dX12_chanceOf_44 : decode cX12_chanceOf 44 = .ok (.getfield 32, 3) := by decide +kernel
theorem dX12_chanceOf_47 : decode cX12_chanceOf 47 = .ok (.iload_n 1, 1) := by decide +kernel
theorem dX12_chanceOf_48 : decode cX12_chanceOf 48 = .ok (.iaload, 1) := by decide +kernel
theorem dX12_chanceOf_49 : decode cX12_chanceOf 49 = .ok (.if_icmp .ge 138, 3) := by decide +kernel
theorem dX12_chanceOf_52 : decode cX12_chanceOf 52 = .ok (.aload_n 0, 1) := by decide +kernel
theorem dX12_chanceOf_53 : decode cX12_chanceOf 53 = .ok (.getfield 55, 3) := by decide +kernel
theorem dX12_chanceOf_56 : decode cX12_chanceOf 56 = .ok (.iload_n 1, 1) := by decide +kernel
theorem dX12_chanceOf_57 : decode cX12_chanceOf 57 = .ok (.iload 4, 2) := by decide +kernel
theorem dX12_chanceOf_59 : decode cX12_chanceOf 59 = .ok (.invokestatic 244, 3) := by decide +kernel
theorem dX12_chanceOf_62 : decode cX12_chanceOf 62 = .ok (.iaload, 1) := by decide +kernel
theorem dX12_chanceOf_63 : decode cX12_chanceOf 63 = .ok (.iconst 1, 1) := by decide +kernel
theorem dX12_chanceOf_64 : decode cX12_chanceOf 64 = .ok (.iadd, 1) := by decide +kernel
theorem dX12_chanceOf_65 : decode cX12_chanceOf 65 = .ok (.istore 5, 2) := by decide +kernel
theorem dX12_chanceOf_67 : decode cX12_chanceOf 67 = .ok (.iload 5, 2) := by decide +kernel
theorem dX12_chanceOf_69 : decode cX12_chanceOf 69 = .ok (.iconst 2, 1) := by decide +kernel
theorem dX12_chanceOf_70 : decode cX12_chanceOf 70 = .ok (.if_icmp .ge 6, 3) := by decide +kernel
theorem dX12_chanceOf_73 : decode cX12_chanceOf 73 = .ok (.goto 108, 3) := by decide +kernel
theorem dX12_chanceOf_76 : decode cX12_chanceOf 76 = .ok (.iload_n 3, 1) := by decide +kernel
theorem dX12_chanceOf_77 : decode cX12_chanceOf 77 = .ok (.iload 5, 2) := by decide +kernel
theorem dX12_chanceOf_79 : decode cX12_chanceOf 79 = .ok (.iconst 1, 1) := by decide +kernel
theorem dX12_chanceOf_80 : decode cX12_chanceOf 80 = .ok (.isub, 1) := by decide +kernel
theorem dX12_chanceOf_81 : decode cX12_chanceOf 81 = .ok (.iadd, 1) := by decide +kernel
theorem dX12_chanceOf_82 : decode cX12_chanceOf 82 = .ok (.istore_n 3, 1) := by decide +kernel
theorem dX12_chanceOf_83 : decode cX12_chanceOf 83 = .ok (.iconst 0, 1) := by decide +kernel
theorem dX12_chanceOf_84 : decode cX12_chanceOf 84 = .ok (.istore 6, 2) := by decide +kernel
theorem dX12_chanceOf_86 : decode cX12_chanceOf 86 = .ok (.iload 6, 2) := by decide +kernel
theorem dX12_chanceOf_88 : decode cX12_chanceOf 88 = .ok (.iload_n 3, 1) := by decide +kernel
theorem dX12_chanceOf_89 : decode cX12_chanceOf 89 = .ok (.if_icmp .gt 63, 3) := by decide +kernel
theorem dX12_chanceOf_92 : decode cX12_chanceOf 92 = .ok (.lconst 0, 1) := by decide +kernel
theorem dX12_chanceOf_93 : decode cX12_chanceOf 93 = .ok (.lstore 7, 2) := by decide +kernel
theorem dX12_chanceOf_95 : decode cX12_chanceOf 95 = .ok (.iconst 0, 1) := by decide +kernel
theorem dX12_chanceOf_96 : decode cX12_chanceOf 96 = .ok (.istore 9, 2) := by decide +kernel
theorem dX12_chanceOf_98 : decode cX12_chanceOf 98 = .ok (.iload 9, 2) := by decide +kernel
theorem dX12_chanceOf_100 : decode cX12_chanceOf 100 = .ok (.iload 5, 2) := by decide +kernel
theorem dX12_chanceOf_102 : decode cX12_chanceOf 102 = .ok (.if_icmp .ge 31, 3) := by decide +kernel
theorem dX12_chanceOf_105 : decode cX12_chanceOf 105 = .ok (.iload 9, 2) := by decide +kernel
theorem dX12_chanceOf_107 : decode cX12_chanceOf 107 = .ok (.iload 6, 2) := by decide +kernel
theorem dX12_chanceOf_109 : decode cX12_chanceOf 109 = .ok (.if_icmp .gt 24, 3) := by decide +kernel
theorem dX12_chanceOf_112 : decode cX12_chanceOf 112 = .ok (.lload 7, 2) := by decide +kernel
theorem dX12_chanceOf_114 : decode cX12_chanceOf 114 = .ok (.aload_n 0, 1) := by decide +kernel
theorem dX12_chanceOf_115 : decode cX12_chanceOf 115 = .ok (.getfield 115, 3) := by decide +kernel
theorem dX12_chanceOf_118 : decode cX12_chanceOf 118 = .ok (.iload 6, 2) := by decide +kernel
theorem dX12_chanceOf_120 : decode cX12_chanceOf 120 = .ok (.iload 9, 2) := by decide +kernel
theorem dX12_chanceOf_122 : decode cX12_chanceOf 122 = .ok (.isub, 1) := by decide +kernel
theorem dX12_chanceOf_123 : decode cX12_chanceOf 123 = .ok (.laload, 1) := by decide +kernel
theorem dX12_chanceOf_124 : decode cX12_chanceOf 124 = .ok (.ladd, 1) := by decide +kernel
theorem dX12_chanceOf_125 : decode cX12_chanceOf 125 = .ok (.lstore 7, 2) := by decide +kernel
theorem dX12_chanceOf_127 : decode cX12_chanceOf 127 = .ok (.iinc 9 1, 3) := by decide +kernel
theorem dX12_chanceOf_130 : decode cX12_chanceOf 130 = .ok (.goto (-32), 3) := by decide +kernel
theorem dX12_chanceOf_133 : decode cX12_chanceOf 133 = .ok (.aload_n 0, 1) := by decide +kernel
theorem dX12_chanceOf_134 : decode cX12_chanceOf 134 = .ok (.getfield 119, 3) := by decide +kernel
theorem dX12_chanceOf_137 : decode cX12_chanceOf 137 = .ok (.iload 6, 2) := by decide +kernel
theorem dX12_chanceOf_139 : decode cX12_chanceOf 139 = .ok (.lload 7, 2) := by decide +kernel
theorem dX12_chanceOf_141 : decode cX12_chanceOf 141 = .ok (.iload 5, 2) := by decide +kernel
theorem dX12_chanceOf_143 : decode cX12_chanceOf 143 = .ok (.i2l, 1) := by decide +kernel
theorem dX12_chanceOf_144 : decode cX12_chanceOf 144 = .ok (.ldiv, 1) := by decide +kernel
theorem dX12_chanceOf_145 : decode cX12_chanceOf 145 = .ok (.lastore, 1) := by decide +kernel
theorem dX12_chanceOf_146 : decode cX12_chanceOf 146 = .ok (.iinc 6 1, 3) := by decide +kernel
theorem dX12_chanceOf_149 : decode cX12_chanceOf 149 = .ok (.goto (-63), 3) := by decide +kernel
theorem dX12_chanceOf_152 : decode cX12_chanceOf 152 = .ok (.iconst 0, 1) := by decide +kernel
theorem dX12_chanceOf_153 : decode cX12_chanceOf 153 = .ok (.istore 6, 2) := by decide +kernel
theorem dX12_chanceOf_155 : decode cX12_chanceOf 155 = .ok (.iload 6, 2) := by decide +kernel
theorem dX12_chanceOf_157 : decode cX12_chanceOf 157 = .ok (.iload_n 3, 1) := by decide +kernel
theorem dX12_chanceOf_158 : decode cX12_chanceOf 158 = .ok (.if_icmp .gt 23, 3) := by decide +kernel
theorem dX12_chanceOf_161 : decode cX12_chanceOf 161 = .ok (.aload_n 0, 1) := by decide +kernel
theorem dX12_chanceOf_162 : decode cX12_chanceOf 162 = .ok (.getfield 115, 3) := by decide +kernel
theorem dX12_chanceOf_165 : decode cX12_chanceOf 165 = .ok (.iload 6, 2) := by decide +kernel
theorem dX12_chanceOf_167 : decode cX12_chanceOf 167 = .ok (.aload_n 0, 1) := by decide +kernel
theorem dX12_chanceOf_168 : decode cX12_chanceOf 168 = .ok (.getfield 119, 3) := by decide +kernel
theorem dX12_chanceOf_171 : decode cX12_chanceOf 171 = .ok (.iload 6, 2) := by decide +kernel
theorem dX12_chanceOf_173 : decode cX12_chanceOf 173 = .ok (.laload, 1) := by decide +kernel
theorem dX12_chanceOf_174 : decode cX12_chanceOf 174 = .ok (.lastore, 1) := by decide +kernel
theorem dX12_chanceOf_175 : decode cX12_chanceOf 175 = .ok (.iinc 6 1, 3) := by decide +kernel
theorem dX12_chanceOf_178 : decode cX12_chanceOf 178 = .ok (.goto (-23), 3) := by decide +kernel
theorem dX12_chanceOf_181 : decode cX12_chanceOf 181 = .ok (.iinc 4 1, 3) := by decide +kernel
theorem dX12_chanceOf_184 : decode cX12_chanceOf 184 = .ok (.goto (-143), 3) := by decide +kernel
theorem dX12_chanceOf_187 : decode cX12_chanceOf 187 = .ok (.lconst 0, 1) := by decide +kernel
theorem dX12_chanceOf_188 : decode cX12_chanceOf 188 = .ok (.lstore 4, 2) := by decide +kernel
theorem dX12_chanceOf_190 : decode cX12_chanceOf 190 = .ok (.iload_n 2, 1) := by decide +kernel
theorem dX12_chanceOf_191 : decode cX12_chanceOf 191 = .ok (.istore 6, 2) := by decide +kernel
theorem dX12_chanceOf_193 : decode cX12_chanceOf 193 = .ok (.iload 6, 2) := by decide +kernel
theorem dX12_chanceOf_195 : decode cX12_chanceOf 195 = .ok (.iload_n 3, 1) := by decide +kernel
theorem dX12_chanceOf_196 : decode cX12_chanceOf 196 = .ok (.if_icmp .gt 21, 3) := by decide +kernel
theorem dX12_chanceOf_199 : decode cX12_chanceOf 199 = .ok (.lload 4, 2) := by decide +kernel
theorem dX12_chanceOf_201 : decode cX12_chanceOf 201 = .ok (.aload_n 0, 1) := by decide +kernel
theorem dX12_chanceOf_202 : decode cX12_chanceOf 202 = .ok (.getfield 115, 3) := by decide +kernel
theorem dX12_chanceOf_205 : decode cX12_chanceOf 205 = .ok (.iload 6, 2) := by decide +kernel
theorem dX12_chanceOf_207 : decode cX12_chanceOf 207 = .ok (.laload, 1) := by decide +kernel
theorem dX12_chanceOf_208 : decode cX12_chanceOf 208 = .ok (.ladd, 1) := by decide +kernel
theorem dX12_chanceOf_209 : decode cX12_chanceOf 209 = .ok (.lstore 4, 2) := by decide +kernel
theorem dX12_chanceOf_211 : decode cX12_chanceOf 211 = .ok (.iinc 6 1, 3) := by decide +kernel
theorem dX12_chanceOf_214 : decode cX12_chanceOf 214 = .ok (.goto (-21), 3) := by decide +kernel
theorem dX12_chanceOf_217 : decode cX12_chanceOf 217 = .ok (.lload 4, 2) := by decide +kernel
theorem dX12_chanceOf_219 : decode cX12_chanceOf 219 = .ok (.l2i, 1) := by decide +kernel
theorem dX12_chanceOf_220 : decode cX12_chanceOf 220 = .ok (.ireturn, 1) := by decide +kernel
theorem dX12_sleepy_0 : decode cX12_sleepy 0 = .ok (.aload_n 0, 1) := by decide +kernel
theorem dX12_sleepy_1 : decode cX12_sleepy 1 = .ok (.iconst 0, 1) := by decide +kernel
theorem dX12_sleepy_2 : decode cX12_sleepy 2 = .ok (.putfield 158, 3) := by decide +kernel
theorem dX12_sleepy_5 : decode cX12_sleepy 5 = .ok (.aload_n 0, 1) := by decide +kernel
theorem dX12_sleepy_6 : decode cX12_sleepy 6 = .ok (.iload_n 1, 1) := by decide +kernel
theorem dX12_sleepy_7 : decode cX12_sleepy 7 = .ok (.invokevirtual 371, 3) := by decide +kernel
theorem dX12_sleepy_10 : decode cX12_sleepy 10 = .ok (.ifCond .eq 12, 3) := by decide +kernel
theorem dX12_sleepy_13 : decode cX12_sleepy 13 = .ok (.iload_n 2, 1) := by decide +kernel
theorem dX12_sleepy_14 : decode cX12_sleepy 14 = .ok (.iconst 0, 1) := by decide +kernel
theorem dX12_sleepy_15 : decode cX12_sleepy 15 = .ok (.iconst 2, 1) := by decide +kernel
theorem dX12_sleepy_16 : decode cX12_sleepy 16 = .ok (.invokestatic 161, 3) := by decide +kernel
theorem dX12_sleepy_19 : decode cX12_sleepy 19 = .ok (.ifCond .ne 9, 3) := by decide +kernel
theorem dX12_sleepy_22 : decode cX12_sleepy 22 = .ok (.aload_n 0, 1) := by decide +kernel
theorem dX12_sleepy_23 : decode cX12_sleepy 23 = .ok (.iconst 1, 1) := by decide +kernel
theorem dX12_sleepy_24 : decode cX12_sleepy 24 = .ok (.invokevirtual 263, 3) := by decide +kernel
theorem dX12_sleepy_27 : decode cX12_sleepy 27 = .ok (.ireturn, 1) := by decide +kernel
theorem dX12_sleepy_28 : decode cX12_sleepy 28 = .ok (.iload_n 2, 1) := by decide +kernel
theorem dX12_sleepy_29 : decode cX12_sleepy 29 = .ok (.iconst 2, 1) := by decide +kernel
theorem dX12_sleepy_30 : decode cX12_sleepy 30 = .ok (.if_icmp .ne 17, 3) := by decide +kernel
theorem dX12_sleepy_33 : decode cX12_sleepy 33 = .ok (.aload_n 0, 1) := by decide +kernel
theorem dX12_sleepy_34 : decode cX12_sleepy 34 = .ok (.iload_n 1, 1) := by decide +kernel
theorem dX12_sleepy_35 : decode cX12_sleepy 35 = .ok (.aload_n 0, 1) := by decide +kernel
theorem dX12_sleepy_36 : decode cX12_sleepy 36 = .ok (.iload_n 1, 1) := by decide +kernel
theorem dX12_sleepy_37 : decode cX12_sleepy 37 = .ok (.iconst (-1), 1) := by decide +kernel
theorem dX12_sleepy_38 : decode cX12_sleepy 38 = .ok (.invokevirtual 382, 3) := by decide +kernel
theorem dX12_sleepy_41 : decode cX12_sleepy 41 = .ok (.invokevirtual 385, 3) := by decide +kernel
theorem dX12_sleepy_44 : decode cX12_sleepy 44 = .ok (.goto 17, 3) := by decide +kernel
theorem dX12_sleepy_47 : decode cX12_sleepy 47 = .ok (.aload_n 0, 1) := by decide +kernel
theorem dX12_sleepy_48 : decode cX12_sleepy 48 = .ok (.iload_n 1, 1) := by decide +kernel
theorem dX12_sleepy_49 : decode cX12_sleepy 49 = .ok (.iload_n 2, 1) := by decide +kernel
theorem dX12_sleepy_50 : decode cX12_sleepy 50 = .ok (.ifCond .ne 7, 3) := by decide +kernel
theorem dX12_sleepy_53 : decode cX12_sleepy 53 = .ok (.iconst (-1), 1) := by decide +kernel
theorem dX12_sleepy_54 : decode cX12_sleepy 54 = .ok (.goto 4, 3) := by decide +kernel
theorem dX12_sleepy_57 : decode cX12_sleepy 57 = .ok (.iconst 1, 1) := by decide +kernel
theorem dX12_sleepy_58 : decode cX12_sleepy 58 = .ok (.invokevirtual 382, 3) := by decide +kernel
theorem dX12_sleepy_61 : decode cX12_sleepy 61 = .ok (.ireturn, 1) := by decide +kernel
theorem dX12_tellLights_0 : decode cX12_tellLights 0 = .ok (.aload_n 0, 1) := by decide +kernel
theorem dX12_tellLights_1 : decode cX12_tellLights 1 = .ok (.iconst 0, 1) := by decide +kernel
theorem dX12_tellLights_2 : decode cX12_tellLights 2 = .ok (.putfield 388, 3) := by decide +kernel
theorem dX12_tellLights_5 : decode cX12_tellLights 5 = .ok (.iconst 0, 1) := by decide +kernel
theorem dX12_tellLights_6 : decode cX12_tellLights 6 = .ok (.istore_n 2, 1) := by decide +kernel
theorem dX12_tellLights_7 : decode cX12_tellLights 7 = .ok (.iload_n 2, 1) := by decide +kernel
theorem dX12_tellLights_8 : decode cX12_tellLights 8 = .ok (.bipush 12, 2) := by decide +kernel
theorem dX12_tellLights_10 : decode cX12_tellLights 10 = .ok (.if_icmp .ge 116, 3) := by decide +kernel
theorem dX12_tellLights_13 : decode cX12_tellLights 13 = .ok (.aload_n 0, 1) := by decide +kernel
theorem dX12_tellLights_14 : decode cX12_tellLights 14 = .ok (.iload_n 1, 1) := by decide +kernel
theorem dX12_tellLights_15 : decode cX12_tellLights 15 = .ok (.iload_n 2, 1) := by decide +kernel
theorem dX12_tellLights_16 : decode cX12_tellLights 16 = .ok (.invokevirtual 374, 3) := by decide +kernel
theorem dX12_tellLights_19 : decode cX12_tellLights 19 = .ok (.ifCond .ne 6, 3) := by decide +kernel
theorem dX12_tellLights_22 : decode cX12_tellLights 22 = .ok (.goto 98, 3) := by decide +kernel
theorem dX12_tellLights_25 : decode cX12_tellLights 25 = .ok (.aload_n 0, 1) := by decide +kernel
theorem dX12_tellLights_26 : decode cX12_tellLights 26 = .ok (.iload_n 1, 1) := by decide +kernel
theorem dX12_tellLights_27 : decode cX12_tellLights 27 = .ok (.iload_n 2, 1) := by decide +kernel
theorem dX12_tellLights_28 : decode cX12_tellLights 28 = .ok (.invokevirtual 377, 3) := by decide +kernel
theorem dX12_tellLights_31 : decode cX12_tellLights 31 = .ok (.istore_n 3, 1) := by decide +kernel
theorem dX12_tellLights_32 : decode cX12_tellLights 32 = .ok (.aload_n 0, 1) := by decide +kernel
theorem dX12_tellLights_33 : decode cX12_tellLights 33 = .ok (.getfield 388, 3) := by decide +kernel
theorem dX12_tellLights_36 : decode cX12_tellLights 36 = .ok (.istore 4, 2) := by decide +kernel
theorem dX12_tellLights_38 : decode cX12_tellLights 38 = .ok (.iload 4, 2) := by decide +kernel
theorem dX12_tellLights_40 : decode cX12_tellLights 40 = .ok (.ifCond .le 54, 3) := by decide +kernel
theorem dX12_tellLights_43 : decode cX12_tellLights 43 = .ok (.aload_n 0, 1) := by decide +kernel
theorem dX12_tellLights_44 : decode cX12_tellLights 44 = .ok (.getfield 125, 3) := by decide +kernel
theorem dX12_tellLights_47 : decode cX12_tellLights 47 = .ok (.iload 4, 2) := by decide +kernel
theorem dX12_tellLights_49 : decode cX12_tellLights 49 = .ok (.iconst 1, 1) := by decide +kernel
theorem dX12_tellLights_50 : decode cX12_tellLights 50 = .ok (.isub, 1) := by decide +kernel
theorem dX12_tellLights_51 : decode cX12_tellLights 51 = .ok (.iaload, 1) := by decide +kernel
theorem dX12_tellLights_52 : decode cX12_tellLights 52 = .ok (.iload_n 3, 1) := by decide +kernel
theorem dX12_tellLights_53 : decode cX12_tellLights 53 = .ok (.if_icmp .le 41, 3) := by decide +kernel
theorem dX12_tellLights_56 : decode cX12_tellLights 56 = .ok (.aload_n 0, 1) := by decide +kernel
theorem dX12_tellLights_57 : decode cX12_tellLights 57 = .ok (.getfield 122, 3) := by decide +kernel
theorem dX12_tellLights_60 : decode cX12_tellLights 60 = .ok (.iload 4, 2) := by decide +kernel
theorem dX12_tellLights_62 : decode cX12_tellLights 62 = .ok (.aload_n 0, 1) := by decide +kernel
theorem dX12_tellLights_63 : decode cX12_tellLights 63 = .ok (.getfield 122, 3) := by decide +kernel
theorem dX12_tellLights_66 : decode cX12_tellLights 66 = .ok (.iload 4, 2) := by decide +kernel
theorem dX12_tellLights_68 : decode cX12_tellLights 68 = .ok (.iconst 1, 1) := by decide +kernel
theorem dX12_tellLights_69 : decode cX12_tellLights 69 = .ok (.isub, 1) := by decide +kernel
theorem dX12_tellLights_70 : decode cX12_tellLights 70 = .ok (.iaload, 1) := by decide +kernel
theorem dX12_tellLights_71 : decode cX12_tellLights 71 = .ok (.iastore, 1) := by decide +kernel
theorem dX12_tellLights_72 : decode cX12_tellLights 72 = .ok (.aload_n 0, 1) := by decide +kernel
theorem dX12_tellLights_73 : decode cX12_tellLights 73 = .ok (.getfield 125, 3) := by decide +kernel
theorem dX12_tellLights_76 : decode cX12_tellLights 76 = .ok (.iload 4, 2) := by decide +kernel
theorem dX12_tellLights_78 : decode cX12_tellLights 78 = .ok (.aload_n 0, 1) := by decide +kernel
theorem dX12_tellLights_79 : decode cX12_tellLights 79 = .ok (.getfield 125, 3) := by decide +kernel
theorem dX12_tellLights_82 : decode cX12_tellLights 82 = .ok (.iload 4, 2) := by decide +kernel
theorem dX12_tellLights_84 : decode cX12_tellLights 84 = .ok (.iconst 1, 1) := by decide +kernel
theorem dX12_tellLights_85 : decode cX12_tellLights 85 = .ok (.isub, 1) := by decide +kernel
theorem dX12_tellLights_86 : decode cX12_tellLights 86 = .ok (.iaload, 1) := by decide +kernel
theorem dX12_tellLights_87 : decode cX12_tellLights 87 = .ok (.iastore, 1) := by decide +kernel
theorem dX12_tellLights_88 : decode cX12_tellLights 88 = .ok (.iinc 4 (-1), 3) := by decide +kernel
theorem dX12_tellLights_91 : decode cX12_tellLights 91 = .ok (.goto (-53), 3) := by decide +kernel
theorem dX12_tellLights_94 : decode cX12_tellLights 94 = .ok (.aload_n 0, 1) := by decide +kernel
theorem dX12_tellLights_95 : decode cX12_tellLights 95 = .ok (.getfield 122, 3) := by decide +kernel
theorem dX12_tellLights_98 : decode cX12_tellLights 98 = .ok (.iload 4, 2) := by decide +kernel
theorem dX12_tellLights_100 : decode cX12_tellLights 100 = .ok (.iload_n 2, 1) := by decide +kernel
theorem dX12_tellLights_101 : decode cX12_tellLights 101 = .ok (.iastore, 1) := by decide +kernel
theorem dX12_tellLights_102 : decode cX12_tellLights 102 = .ok (.aload_n 0, 1) := by decide +kernel
theorem dX12_tellLights_103 : decode cX12_tellLights 103 = .ok (.getfield 125, 3) := by decide +kernel
theorem dX12_tellLights_106 : decode cX12_tellLights 106 = .ok (.iload 4, 2) := by decide +kernel
theorem dX12_tellLights_108 : decode cX12_tellLights 108 = .ok (.iload_n 3, 1) := by decide +kernel
theorem dX12_tellLights_109 : decode cX12_tellLights 109 = .ok (.iastore, 1) := by decide +kernel
theorem dX12_tellLights_110 : decode cX12_tellLights 110 = .ok (.aload_n 0, 1) := by decide +kernel
theorem dX12_tellLights_111 : decode cX12_tellLights 111 = .ok (.dup, 1) := by decide +kernel
theorem dX12_tellLights_112 : decode cX12_tellLights 112 = .ok (.getfield 388, 3) := by decide +kernel
theorem dX12_tellLights_115 : decode cX12_tellLights 115 = .ok (.iconst 1, 1) := by decide +kernel
theorem dX12_tellLights_116 : decode cX12_tellLights 116 = .ok (.iadd, 1) := by decide +kernel
theorem dX12_tellLights_117 : decode cX12_tellLights 117 = .ok (.putfield 388, 3) := by decide +kernel
theorem dX12_tellLights_120 : decode cX12_tellLights 120 = .ok (.iinc 2 1, 3) := by decide +kernel
theorem dX12_tellLights_123 : decode cX12_tellLights 123 = .ok (.goto (-116), 3) := by decide +kernel
theorem dX12_tellLights_126 : decode cX12_tellLights 126 = .ok (.return_, 1) := by decide +kernel
theorem dX12_spread_0 : decode cX12_spread 0 = .ok (.iload_n 2, 1) := by decide +kernel
theorem dX12_spread_1 : decode cX12_spread 1 = .ok (.iload_n 1, 1) := by decide +kernel
theorem dX12_spread_2 : decode cX12_spread 2 = .ok (.isub, 1) := by decide +kernel
theorem dX12_spread_3 : decode cX12_spread 3 = .ok (.i2l, 1) := by decide +kernel
theorem dX12_spread_4 : decode cX12_spread 4 = .ok (.lstore_n 3, 1) := by decide +kernel
theorem dX12_spread_5 : decode cX12_spread 5 = .ok (.lconst 0, 1) := by decide +kernel
theorem dX12_spread_6 : decode cX12_spread 6 = .ok (.lstore 5, 2) := by decide +kernel
theorem dX12_spread_8 : decode cX12_spread 8 = .ok (.lconst 0, 1) := by decide +kernel
theorem dX12_spread_9 : decode cX12_spread 9 = .ok (.lstore 7, 2) := by decide +kernel
theorem dX12_spread_11 : decode cX12_spread 11 = .ok (.iload_n 1, 1) := by decide +kernel
theorem dX12_spread_12 : decode cX12_spread 12 = .ok (.istore 9, 2) := by decide +kernel
theorem dX12_spread_14 : decode cX12_spread 14 = .ok (.iload 9, 2) := by decide +kernel
theorem dX12_spread_16 : decode cX12_spread 16 = .ok (.iload_n 2, 1) := by decide +kernel
theorem dX12_spread_17 : decode cX12_spread 17 = .ok (.if_icmp .ge 44, 3) := by decide +kernel
theorem dX12_spread_20 : decode cX12_spread 20 = .ok (.lload 5, 2) := by decide +kernel
theorem dX12_spread_22 : decode cX12_spread 22 = .ok (.aload_n 0, 1) := by decide +kernel
theorem dX12_spread_23 : decode cX12_spread 23 = .ok (.getfield 125, 3) := by decide +kernel
theorem dX12_spread_26 : decode cX12_spread 26 = .ok (.iload 9, 2) := by decide +kernel
theorem dX12_spread_28 : decode cX12_spread 28 = .ok (.iaload, 1) := by decide +kernel
theorem dX12_spread_29 : decode cX12_spread 29 = .ok (.i2l, 1) := by decide +kernel
theorem dX12_spread_30 : decode cX12_spread 30 = .ok (.ladd, 1) := by decide +kernel
theorem dX12_spread_31 : decode cX12_spread 31 = .ok (.lstore 5, 2) := by decide +kernel
theorem dX12_spread_33 : decode cX12_spread 33 = .ok (.lload 7, 2) := by decide +kernel
theorem dX12_spread_35 : decode cX12_spread 35 = .ok (.aload_n 0, 1) := by decide +kernel
theorem dX12_spread_36 : decode cX12_spread 36 = .ok (.getfield 125, 3) := by decide +kernel
theorem dX12_spread_39 : decode cX12_spread 39 = .ok (.iload 9, 2) := by decide +kernel
theorem dX12_spread_41 : decode cX12_spread 41 = .ok (.iaload, 1) := by decide +kernel
theorem dX12_spread_42 : decode cX12_spread 42 = .ok (.i2l, 1) := by decide +kernel
theorem dX12_spread_43 : decode cX12_spread 43 = .ok (.aload_n 0, 1) := by decide +kernel
theorem dX12_spread_44 : decode cX12_spread 44 = .ok (.getfield 125, 3) := by decide +kernel
theorem dX12_spread_47 : decode cX12_spread 47 = .ok (.iload 9, 2) := by decide +kernel
theorem dX12_spread_49 : decode cX12_spread 49 = .ok (.iaload, 1) := by decide +kernel
theorem dX12_spread_50 : decode cX12_spread 50 = .ok (.i2l, 1) := by decide +kernel
theorem dX12_spread_51 : decode cX12_spread 51 = .ok (.lmul, 1) := by decide +kernel
theorem dX12_spread_52 : decode cX12_spread 52 = .ok (.ladd, 1) := by decide +kernel
theorem dX12_spread_53 : decode cX12_spread 53 = .ok (.lstore 7, 2) := by decide +kernel
theorem dX12_spread_55 : decode cX12_spread 55 = .ok (.iinc 9 1, 3) := by decide +kernel
theorem dX12_spread_58 : decode cX12_spread 58 = .ok (.goto (-44), 3) := by decide +kernel
theorem dX12_spread_61 : decode cX12_spread 61 = .ok (.ldc2_w 391, 3) := by decide +kernel
theorem dX12_spread_64 : decode cX12_spread 64 = .ok (.lload_n 3, 1) := by decide +kernel
theorem dX12_spread_65 : decode cX12_spread 65 = .ok (.lload 7, 2) := by decide +kernel
theorem dX12_spread_67 : decode cX12_spread 67 = .ok (.lmul, 1) := by decide +kernel
theorem dX12_spread_68 : decode cX12_spread 68 = .ok (.lload 5, 2) := by decide +kernel
theorem dX12_spread_70 : decode cX12_spread 70 = .ok (.lload 5, 2) := by decide +kernel
theorem dX12_spread_72 : decode cX12_spread 72 = .ok (.lmul, 1) := by decide +kernel
theorem dX12_spread_73 : decode cX12_spread 73 = .ok (.lsub, 1) := by decide +kernel
theorem dX12_spread_74 : decode cX12_spread 74 = .ok (.lmul, 1) := by decide +kernel
theorem dX12_spread_75 : decode cX12_spread 75 = .ok (.lload_n 3, 1) := by decide +kernel
theorem dX12_spread_76 : decode cX12_spread 76 = .ok (.ldiv, 1) := by decide +kernel
theorem dX12_spread_77 : decode cX12_spread 77 = .ok (.lreturn, 1) := by decide +kernel
theorem dX12_part_0 : decode cX12_part 0 = .ok (.iload_n 1, 1) := by decide +kernel
theorem dX12_part_1 : decode cX12_part 1 = .ok (.iload_n 2, 1) := by decide +kernel
theorem dX12_part_2 : decode cX12_part 2 = .ok (.iconst 1, 1) := by decide +kernel
theorem dX12_part_3 : decode cX12_part 3 = .ok (.isub, 1) := by decide +kernel
theorem dX12_part_4 : decode cX12_part 4 = .ok (.if_icmp .ne 87, 3) := by decide +kernel
theorem dX12_part_7 : decode cX12_part 7 = .ok (.aload_n 0, 1) := by decide +kernel
theorem dX12_part_8 : decode cX12_part 8 = .ok (.getfield 128, 3) := by decide +kernel
theorem dX12_part_11 : decode cX12_part 11 = .ok (.iload_n 2, 1) := by decide +kernel
theorem dX12_part_12 : decode cX12_part 12 = .ok (.aload_n 0, 1) := by decide +kernel
theorem dX12_part_13 : decode cX12_part 13 = .ok (.getfield 388, 3) := by decide +kernel
theorem dX12_part_16 : decode cX12_part 16 = .ok (.iastore, 1) := by decide +kernel
theorem dX12_part_17 : decode cX12_part 17 = .ok (.lload_n 3, 1) := by decide +kernel
theorem dX12_part_18 : decode cX12_part 18 = .ok (.aload_n 0, 1) := by decide +kernel
theorem dX12_part_19 : decode cX12_part 19 = .ok (.aload_n 0, 1) := by decide +kernel
theorem dX12_part_20 : decode cX12_part 20 = .ok (.getfield 128, 3) := by decide +kernel
theorem dX12_part_23 : decode cX12_part 23 = .ok (.iload_n 1, 1) := by decide +kernel
theorem dX12_part_24 : decode cX12_part 24 = .ok (.iaload, 1) := by decide +kernel
theorem dX12_part_25 : decode cX12_part 25 = .ok (.aload_n 0, 1) := by decide +kernel
theorem dX12_part_26 : decode cX12_part 26 = .ok (.getfield 388, 3) := by decide +kernel
theorem dX12_part_29 : decode cX12_part 29 = .ok (.invokevirtual 393, 3) := by decide +kernel
theorem dX12_part_32 : decode cX12_part 32 = .ok (.ladd, 1) := by decide +kernel
theorem dX12_part_33 : decode cX12_part 33 = .ok (.lstore 5, 2) := by decide +kernel
theorem dX12_part_35 : decode cX12_part 35 = .ok (.aload_n 0, 1) := by decide +kernel
theorem dX12_part_36 : decode cX12_part 36 = .ok (.getfield 397, 3) := by decide +kernel
theorem dX12_part_39 : decode cX12_part 39 = .ok (.lconst 0, 1) := by decide +kernel
theorem dX12_part_40 : decode cX12_part 40 = .ok (.lcmp, 1) := by decide +kernel
theorem dX12_part_41 : decode cX12_part 41 = .ok (.ifCond .lt 14, 3) := by decide +kernel
theorem dX12_part_44 : decode cX12_part 44 = .ok (.lload 5, 2) := by decide +kernel
theorem dX12_part_46 : decode cX12_part 46 = .ok (.aload_n 0, 1) := by decide +kernel
theorem dX12_part_47 : decode cX12_part 47 = .ok (.getfield 397, 3) := by decide +kernel
theorem dX12_part_50 : decode cX12_part 50 = .ok (.lcmp, 1) := by decide +kernel
theorem dX12_part_51 : decode cX12_part 51 = .ok (.ifCond .lt 4, 3) := by decide +kernel
theorem dX12_part_54 : decode cX12_part 54 = .ok (.return_, 1) := by decide +kernel
theorem dX12_part_55 : decode cX12_part 55 = .ok (.aload_n 0, 1) := by decide +kernel
theorem dX12_part_56 : decode cX12_part 56 = .ok (.lload 5, 2) := by decide +kernel
theorem dX12_part_58 : decode cX12_part 58 = .ok (.putfield 397, 3) := by decide +kernel
theorem dX12_part_61 : decode cX12_part 61 = .ok (.iconst 0, 1) := by decide +kernel
theorem dX12_part_62 : decode cX12_part 62 = .ok (.istore 7, 2) := by decide +kernel
theorem dX12_part_64 : decode cX12_part 64 = .ok (.iload 7, 2) := by decide +kernel
theorem dX12_part_66 : decode cX12_part 66 = .ok (.iload_n 2, 1) := by decide +kernel
