theorem dX12_part_67 : decode cX12_part 67 = .ok (.if_icmp .gt 23, 3) := by decide +kernel
theorem dX12_part_70 : decode cX12_part 70 = .ok (.aload_n 0, 1) := by decide +kernel
theorem dX12_part_71 : decode cX12_part 71 = .ok (.getfield 131, 3) := by decide +kernel
theorem dX12_part_74 : decode cX12_part 74 = .ok (.iload 7, 2) := by decide +kernel
theorem dX12_part_76 : decode cX12_part 76 = .ok (.aload_n 0, 1) := by decide +kernel
theorem dX12_part_77 : decode cX12_part 77 = .ok (.getfield 128, 3) := by decide +kernel
theorem dX12_part_80 : decode cX12_part 80 = .ok (.iload 7, 2) := by decide +kernel
theorem dX12_part_82 : decode cX12_part 82 = .ok (.iaload, 1) := by decide +kernel
theorem dX12_part_83 : decode cX12_part 83 = .ok (.iastore, 1) := by decide +kernel
theorem dX12_part_84 : decode cX12_part 84 = .ok (.iinc 7 1, 3) := by decide +kernel
theorem dX12_part_87 : decode cX12_part 87 = .ok (.goto (-23), 3) := by decide +kernel
theorem dX12_part_90 : decode cX12_part 90 = .ok (.return_, 1) := by decide +kernel
theorem dX12_part_91 : decode cX12_part 91 = .ok (.aload_n 0, 1) := by decide +kernel
theorem dX12_part_92 : decode cX12_part 92 = .ok (.getfield 128, 3) := by decide +kernel
theorem dX12_part_95 : decode cX12_part 95 = .ok (.iload_n 1, 1) := by decide +kernel
theorem dX12_part_96 : decode cX12_part 96 = .ok (.iaload, 1) := by decide +kernel
theorem dX12_part_97 : decode cX12_part 97 = .ok (.iconst 1, 1) := by decide +kernel
theorem dX12_part_98 : decode cX12_part 98 = .ok (.iadd, 1) := by decide +kernel
theorem dX12_part_99 : decode cX12_part 99 = .ok (.istore 5, 2) := by decide +kernel
theorem dX12_part_101 : decode cX12_part 101 = .ok (.iload 5, 2) := by decide +kernel
theorem dX12_part_103 : decode cX12_part 103 = .ok (.aload_n 0, 1) := by decide +kernel
theorem dX12_part_104 : decode cX12_part 104 = .ok (.getfield 388, 3) := by decide +kernel
theorem dX12_part_107 : decode cX12_part 107 = .ok (.iload_n 2, 1) := by decide +kernel
theorem dX12_part_108 : decode cX12_part 108 = .ok (.iconst 1, 1) := by decide +kernel
theorem dX12_part_109 : decode cX12_part 109 = .ok (.isub, 1) := by decide +kernel
theorem dX12_part_110 : decode cX12_part 110 = .ok (.iload_n 1, 1) := by decide +kernel
theorem dX12_part_111 : decode cX12_part 111 = .ok (.isub, 1) := by decide +kernel
theorem dX12_part_112 : decode cX12_part 112 = .ok (.isub, 1) := by decide +kernel
theorem dX12_part_113 : decode cX12_part 113 = .ok (.if_icmp .gt 41, 3) := by decide +kernel
theorem dX12_part_116 : decode cX12_part 116 = .ok (.aload_n 0, 1) := by decide +kernel
theorem dX12_part_117 : decode cX12_part 117 = .ok (.getfield 128, 3) := by decide +kernel
theorem dX12_part_120 : decode cX12_part 120 = .ok (.iload_n 1, 1) := by decide +kernel
theorem dX12_part_121 : decode cX12_part 121 = .ok (.iconst 1, 1) := by decide +kernel
theorem dX12_part_122 : decode cX12_part 122 = .ok (.iadd, 1) := by decide +kernel
theorem dX12_part_123 : decode cX12_part 123 = .ok (.iload 5, 2) := by decide +kernel
theorem dX12_part_125 : decode cX12_part 125 = .ok (.iastore, 1) := by decide +kernel
theorem dX12_part_126 : decode cX12_part 126 = .ok (.aload_n 0, 1) := by decide +kernel
theorem dX12_part_127 : decode cX12_part 127 = .ok (.iload_n 1, 1) := by decide +kernel
theorem dX12_part_128 : decode cX12_part 128 = .ok (.iconst 1, 1) := by decide +kernel
theorem dX12_part_129 : decode cX12_part 129 = .ok (.iadd, 1) := by decide +kernel
theorem dX12_part_130 : decode cX12_part 130 = .ok (.iload_n 2, 1) := by decide +kernel
theorem dX12_part_131 : decode cX12_part 131 = .ok (.lload_n 3, 1) := by decide +kernel
theorem dX12_part_132 : decode cX12_part 132 = .ok (.aload_n 0, 1) := by decide +kernel
theorem dX12_part_133 : decode cX12_part 133 = .ok (.aload_n 0, 1) := by decide +kernel
theorem dX12_part_134 : decode cX12_part 134 = .ok (.getfield 128, 3) := by decide +kernel
theorem dX12_part_137 : decode cX12_part 137 = .ok (.iload_n 1, 1) := by decide +kernel
theorem dX12_part_138 : decode cX12_part 138 = .ok (.iaload, 1) := by decide +kernel
theorem dX12_part_139 : decode cX12_part 139 = .ok (.iload 5, 2) := by decide +kernel
theorem dX12_part_141 : decode cX12_part 141 = .ok (.invokevirtual 393, 3) := by decide +kernel
theorem dX12_part_144 : decode cX12_part 144 = .ok (.ladd, 1) := by decide +kernel
theorem dX12_part_145 : decode cX12_part 145 = .ok (.invokevirtual 401, 3) := by decide +kernel
theorem dX12_part_148 : decode cX12_part 148 = .ok (.iinc 5 1, 3) := by decide +kernel
theorem dX12_part_151 : decode cX12_part 151 = .ok (.goto (-50), 3) := by decide +kernel
theorem dX12_part_154 : decode cX12_part 154 = .ok (.return_, 1) := by decide +kernel
theorem dX12_tellHumps_0 : decode cX12_tellHumps 0 = .ok (.aload_n 0, 1) := by decide +kernel
theorem dX12_tellHumps_1 : decode cX12_tellHumps 1 = .ok (.iload_n 1, 1) := by decide +kernel
theorem dX12_tellHumps_2 : decode cX12_tellHumps 2 = .ok (.invokevirtual 371, 3) := by decide +kernel
theorem dX12_tellHumps_5 : decode cX12_tellHumps 5 = .ok (.ifCond .ne 5, 3) := by decide +kernel
theorem dX12_tellHumps_8 : decode cX12_tellHumps 8 = .ok (.iconst 0, 1) := by decide +kernel
theorem dX12_tellHumps_9 : decode cX12_tellHumps 9 = .ok (.ireturn, 1) := by decide +kernel
theorem dX12_tellHumps_10 : decode cX12_tellHumps 10 = .ok (.aload_n 0, 1) := by decide +kernel
theorem dX12_tellHumps_11 : decode cX12_tellHumps 11 = .ok (.iload_n 1, 1) := by decide +kernel
theorem dX12_tellHumps_12 : decode cX12_tellHumps 12 = .ok (.invokevirtual 405, 3) := by decide +kernel
theorem dX12_tellHumps_15 : decode cX12_tellHumps 15 = .ok (.iload_n 2, 1) := by decide +kernel
theorem dX12_tellHumps_16 : decode cX12_tellHumps 16 = .ok (.iconst 1, 1) := by decide +kernel
theorem dX12_tellHumps_17 : decode cX12_tellHumps 17 = .ok (.iconst 4, 1) := by decide +kernel
theorem dX12_tellHumps_18 : decode cX12_tellHumps 18 = .ok (.aload_n 0, 1) := by decide +kernel
theorem dX12_tellHumps_19 : decode cX12_tellHumps 19 = .ok (.getfield 388, 3) := by decide +kernel
theorem dX12_tellHumps_22 : decode cX12_tellHumps 22 = .ok (.invokestatic 198, 3) := by decide +kernel
theorem dX12_tellHumps_25 : decode cX12_tellHumps 25 = .ok (.invokestatic 161, 3) := by decide +kernel
theorem dX12_tellHumps_28 : decode cX12_tellHumps 28 = .ok (.ifCond .ne 5, 3) := by decide +kernel
theorem dX12_tellHumps_31 : decode cX12_tellHumps 31 = .ok (.iconst 0, 1) := by decide +kernel
theorem dX12_tellHumps_32 : decode cX12_tellHumps 32 = .ok (.ireturn, 1) := by decide +kernel
theorem dX12_tellHumps_33 : decode cX12_tellHumps 33 = .ok (.aload_n 0, 1) := by decide +kernel
theorem dX12_tellHumps_34 : decode cX12_tellHumps 34 = .ok (.ldc2_w 408, 3) := by decide +kernel
theorem dX12_tellHumps_37 : decode cX12_tellHumps 37 = .ok (.putfield 397, 3) := by decide +kernel
theorem dX12_tellHumps_40 : decode cX12_tellHumps 40 = .ok (.aload_n 0, 1) := by decide +kernel
theorem dX12_tellHumps_41 : decode cX12_tellHumps 41 = .ok (.getfield 128, 3) := by decide +kernel
theorem dX12_tellHumps_44 : decode cX12_tellHumps 44 = .ok (.iconst 0, 1) := by decide +kernel
theorem dX12_tellHumps_45 : decode cX12_tellHumps 45 = .ok (.iconst 0, 1) := by decide +kernel
theorem dX12_tellHumps_46 : decode cX12_tellHumps 46 = .ok (.iastore, 1) := by decide +kernel
theorem dX12_tellHumps_47 : decode cX12_tellHumps 47 = .ok (.aload_n 0, 1) := by decide +kernel
theorem dX12_tellHumps_48 : decode cX12_tellHumps 48 = .ok (.iconst 0, 1) := by decide +kernel
theorem dX12_tellHumps_49 : decode cX12_tellHumps 49 = .ok (.iload_n 2, 1) := by decide +kernel
theorem dX12_tellHumps_50 : decode cX12_tellHumps 50 = .ok (.lconst 0, 1) := by decide +kernel
theorem dX12_tellHumps_51 : decode cX12_tellHumps 51 = .ok (.invokevirtual 401, 3) := by decide +kernel
theorem dX12_tellHumps_54 : decode cX12_tellHumps 54 = .ok (.iconst 1, 1) := by decide +kernel
theorem dX12_tellHumps_55 : decode cX12_tellHumps 55 = .ok (.ireturn, 1) := by decide +kernel
theorem dX12_humps_0 : decode cX12_humps 0 = .ok (.aload_n 0, 1) := by decide +kernel
theorem dX12_humps_1 : decode cX12_humps 1 = .ok (.iconst 0, 1) := by decide +kernel
theorem dX12_humps_2 : decode cX12_humps 2 = .ok (.putfield 158, 3) := by decide +kernel
theorem dX12_humps_5 : decode cX12_humps 5 = .ok (.aload_n 0, 1) := by decide +kernel
theorem dX12_humps_6 : decode cX12_humps 6 = .ok (.iload_n 1, 1) := by decide +kernel
theorem dX12_humps_7 : decode cX12_humps 7 = .ok (.iload_n 2, 1) := by decide +kernel
theorem dX12_humps_8 : decode cX12_humps 8 = .ok (.invokevirtual 410, 3) := by decide +kernel
theorem dX12_humps_11 : decode cX12_humps 11 = .ok (.ifCond .ne 10, 3) := by decide +kernel
theorem dX12_humps_14 : decode cX12_humps 14 = .ok (.aload_n 0, 1) := by decide +kernel
theorem dX12_humps_15 : decode cX12_humps 15 = .ok (.iconst 1, 1) := by decide +kernel
theorem dX12_humps_16 : decode cX12_humps 16 = .ok (.putfield 158, 3) := by decide +kernel
theorem dX12_humps_19 : decode cX12_humps 19 = .ok (.lconst 0, 1) := by decide +kernel
theorem dX12_humps_20 : decode cX12_humps 20 = .ok (.lreturn, 1) := by decide +kernel
theorem dX12_humps_21 : decode cX12_humps 21 = .ok (.aload_n 0, 1) := by decide +kernel
theorem dX12_humps_22 : decode cX12_humps 22 = .ok (.getfield 397, 3) := by decide +kernel
theorem dX12_humps_25 : decode cX12_humps 25 = .ok (.lreturn, 1) := by decide +kernel
theorem dX12_hump_0 : decode cX12_hump 0 = .ok (.aload_n 0, 1) := by decide +kernel
theorem dX12_hump_1 : decode cX12_hump 1 = .ok (.iconst 0, 1) := by decide +kernel
theorem dX12_hump_2 : decode cX12_hump 2 = .ok (.putfield 158, 3) := by decide +kernel
theorem dX12_hump_5 : decode cX12_hump 5 = .ok (.aload_n 0, 1) := by decide +kernel
theorem dX12_hump_6 : decode cX12_hump 6 = .ok (.iload_n 1, 1) := by decide +kernel
theorem dX12_hump_7 : decode cX12_hump 7 = .ok (.iload_n 2, 1) := by decide +kernel
theorem dX12_hump_8 : decode cX12_hump 8 = .ok (.invokevirtual 410, 3) := by decide +kernel
theorem dX12_hump_11 : decode cX12_hump 11 = .ok (.ifCond .eq 12, 3) := by decide +kernel
theorem dX12_hump_14 : decode cX12_hump 14 = .ok (.aload_n 0, 1) := by decide +kernel
theorem dX12_hump_15 : decode cX12_hump 15 = .ok (.iload_n 1, 1) := by decide +kernel
theorem dX12_hump_16 : decode cX12_hump 16 = .ok (.iload_n 3, 1) := by decide +kernel
theorem dX12_hump_17 : decode cX12_hump 17 = .ok (.invokevirtual 374, 3) := by decide +kernel
theorem dX12_hump_20 : decode cX12_hump 20 = .ok (.ifCond .ne 9, 3) := by decide +kernel
theorem dX12_hump_23 : decode cX12_hump 23 = .ok (.aload_n 0, 1) := by decide +kernel
theorem dX12_hump_24 : decode cX12_hump 24 = .ok (.iconst 1, 1) := by decide +kernel
theorem dX12_hump_25 : decode cX12_hump 25 = .ok (.invokevirtual 263, 3) := by decide +kernel
theorem dX12_hump_28 : decode cX12_hump 28 = .ok (.ireturn, 1) := by decide +kernel
theorem dX12_hump_29 : decode cX12_hump 29 = .ok (.iconst 0, 1) := by decide +kernel
theorem dX12_hump_30 : decode cX12_hump 30 = .ok (.istore 4, 2) := by decide +kernel
theorem dX12_hump_32 : decode cX12_hump 32 = .ok (.aload_n 0, 1) := by decide +kernel
theorem dX12_hump_33 : decode cX12_hump 33 = .ok (.getfield 122, 3) := by decide +kernel
theorem dX12_hump_36 : decode cX12_hump 36 = .ok (.iload 4, 2) := by decide +kernel
theorem dX12_hump_38 : decode cX12_hump 38 = .ok (.iaload, 1) := by decide +kernel
theorem dX12_hump_39 : decode cX12_hump 39 = .ok (.iload_n 3, 1) := by decide +kernel
theorem dX12_hump_40 : decode cX12_hump 40 = .ok (.if_icmp .eq 9, 3) := by decide +kernel
theorem dX12_hump_43 : decode cX12_hump 43 = .ok (.iinc 4 1, 3) := by decide +kernel
theorem dX12_hump_46 : decode cX12_hump 46 = .ok (.goto (-14), 3) := by decide +kernel
theorem dX12_hump_49 : decode cX12_hump 49 = .ok (.iconst 0, 1) := by decide +kernel
theorem dX12_hump_50 : decode cX12_hump 50 = .ok (.istore 5, 2) := by decide +kernel
theorem dX12_hump_52 : decode cX12_hump 52 = .ok (.iload 4, 2) := by decide +kernel
theorem dX12_hump_54 : decode cX12_hump 54 = .ok (.aload_n 0, 1) := by decide +kernel
theorem dX12_hump_55 : decode cX12_hump 55 = .ok (.getfield 131, 3) := by decide +kernel
theorem dX12_hump_58 : decode cX12_hump 58 = .ok (.iload 5, 2) := by decide +kernel
theorem dX12_hump_60 : decode cX12_hump 60 = .ok (.iconst 1, 1) := by decide +kernel
theorem dX12_hump_61 : decode cX12_hump 61 = .ok (.iadd, 1) := by decide +kernel
theorem dX12_hump_62 : decode cX12_hump 62 = .ok (.iaload, 1) := by decide +kernel
theorem dX12_hump_63 : decode cX12_hump 63 = .ok (.if_icmp .lt 9, 3) := by decide +kernel
theorem dX12_hump_66 : decode cX12_hump 66 = .ok (.iinc 5 1, 3) := by decide +kernel
theorem dX12_hump_69 : decode cX12_hump 69 = .ok (.goto (-17), 3) := by decide +kernel
theorem dX12_hump_72 : decode cX12_hump 72 = .ok (.iload 5, 2) := by decide +kernel
theorem dX12_hump_74 : decode cX12_hump 74 = .ok (.ireturn, 1) := by decide +kernel
theorem dX12_fitted_0 : decode cX12_fitted 0 = .ok (.aload_n 0, 1) := by decide +kernel
theorem dX12_fitted_1 : decode cX12_fitted 1 = .ok (.iconst 0, 1) := by decide +kernel
theorem dX12_fitted_2 : decode cX12_fitted 2 = .ok (.putfield 158, 3) := by decide +kernel
theorem dX12_fitted_5 : decode cX12_fitted 5 = .ok (.aload_n 0, 1) := by decide +kernel
theorem dX12_fitted_6 : decode cX12_fitted 6 = .ok (.iload_n 1, 1) := by decide +kernel
theorem dX12_fitted_7 : decode cX12_fitted 7 = .ok (.invokevirtual 371, 3) := by decide +kernel
theorem dX12_fitted_10 : decode cX12_fitted 10 = .ok (.ifCond .eq 22, 3) := by decide +kernel
theorem dX12_fitted_13 : decode cX12_fitted 13 = .ok (.iload_n 2, 1) := by decide +kernel
theorem dX12_fitted_14 : decode cX12_fitted 14 = .ok (.invokestatic 279, 3) := by decide +kernel
theorem dX12_fitted_17 : decode cX12_fitted 17 = .ok (.ifCond .eq 15, 3) := by decide +kernel
theorem dX12_fitted_20 : decode cX12_fitted 20 = .ok (.iload_n 3, 1) := by decide +kernel
theorem dX12_fitted_21 : decode cX12_fitted 21 = .ok (.iconst (-1), 1) := by decide +kernel
theorem dX12_fitted_22 : decode cX12_fitted 22 = .ok (.if_icmp .eq 16, 3) := by decide +kernel
theorem dX12_fitted_25 : decode cX12_fitted 25 = .ok (.iload_n 3, 1) := by decide +kernel
theorem dX12_fitted_26 : decode cX12_fitted 26 = .ok (.invokestatic 279, 3) := by decide +kernel
theorem dX12_fitted_29 : decode cX12_fitted 29 = .ok (.ifCond .ne 9, 3) := by decide +kernel
theorem dX12_fitted_32 : decode cX12_fitted 32 = .ok (.aload_n 0, 1) := by decide +kernel
theorem dX12_fitted_33 : decode cX12_fitted 33 = .ok (.iconst 1, 1) := by decide +kernel
theorem dX12_fitted_34 : decode cX12_fitted 34 = .ok (.invokevirtual 263, 3) := by decide +kernel
theorem dX12_fitted_37 : decode cX12_fitted 37 = .ok (.ireturn, 1) := by decide +kernel
theorem dX12_fitted_38 : decode cX12_fitted 38 = .ok (.ldc2_w 408, 3) := by decide +kernel
theorem dX12_fitted_41 : decode cX12_fitted 41 = .ok (.lstore 4, 2) := by decide +kernel
theorem dX12_fitted_43 : decode cX12_fitted 43 = .ok (.iconst 0, 1) := by decide +kernel
theorem dX12_fitted_44 : decode cX12_fitted 44 = .ok (.istore 6, 2) := by decide +kernel
theorem dX12_fitted_46 : decode cX12_fitted 46 = .ok (.iload 6, 2) := by decide +kernel
theorem dX12_fitted_48 : decode cX12_fitted 48 = .ok (.bipush 60, 2) := by decide +kernel
theorem dX12_fitted_50 : decode cX12_fitted 50 = .ok (.if_icmp .gt 172, 3) := by decide +kernel
theorem dX12_fitted_53 : decode cX12_fitted 53 = .ok (.iconst 0, 1) := by decide +kernel
theorem dX12_fitted_54 : decode cX12_fitted 54 = .ok (.istore 7, 2) := by decide +kernel
theorem dX12_fitted_56 : decode cX12_fitted 56 = .ok (.iload 7, 2) := by decide +kernel
theorem dX12_fitted_58 : decode cX12_fitted 58 = .ok (.iload_n 3, 1) := by decide +kernel
theorem dX12_fitted_59 : decode cX12_fitted 59 = .ok (.iconst (-1), 1) := by decide +kernel
theorem dX12_fitted_60 : decode cX12_fitted 60 = .ok (.if_icmp .ne 7, 3) := by decide +kernel
theorem dX12_fitted_63 : decode cX12_fitted 63 = .ok (.iconst 0, 1) := by decide +kernel
theorem dX12_fitted_64 : decode cX12_fitted 64 = .ok (.goto 5, 3) := by decide +kernel
theorem dX12_fitted_67 : decode cX12_fitted 67 = .ok (.bipush 60, 2) := by decide +kernel
theorem dX12_fitted_69 : decode cX12_fitted 69 = .ok (.if_icmp .gt 147, 3) := by decide +kernel
theorem dX12_fitted_72 : decode cX12_fitted 72 = .ok (.lconst 0, 1) := by decide +kernel
theorem dX12_fitted_73 : decode cX12_fitted 73 = .ok (.lstore 8, 2) := by decide +kernel
theorem dX12_fitted_75 : decode cX12_fitted 75 = .ok (.iconst 0, 1) := by decide +kernel
theorem dX12_fitted_76 : decode cX12_fitted 76 = .ok (.istore 10, 2) := by decide +kernel
theorem dX12_fitted_78 : decode cX12_fitted 78 = .ok (.iload 10, 2) := by decide +kernel
theorem dX12_fitted_80 : decode cX12_fitted 80 = .ok (.aload_n 0, 1) := by decide +kernel
theorem dX12_fitted_81 : decode cX12_fitted 81 = .ok (.getfield 32, 3) := by decide +kernel
theorem dX12_fitted_84 : decode cX12_fitted 84 = .ok (.iload_n 1, 1) := by decide +kernel
theorem dX12_fitted_85 : decode cX12_fitted 85 = .ok (.iaload, 1) := by decide +kernel
theorem dX12_fitted_86 : decode cX12_fitted 86 = .ok (.if_icmp .ge 90, 3) := by decide +kernel
theorem dX12_fitted_89 : decode cX12_fitted 89 = .ok (.aload_n 0, 1) := by decide +kernel
theorem dX12_fitted_90 : decode cX12_fitted 90 = .ok (.getfield 50, 3) := by decide +kernel
theorem dX12_fitted_93 : decode cX12_fitted 93 = .ok (.iload_n 1, 1) := by decide +kernel
theorem dX12_fitted_94 : decode cX12_fitted 94 = .ok (.iload 10, 2) := by decide +kernel
theorem dX12_fitted_96 : decode cX12_fitted 96 = .ok (.invokestatic 244, 3) := by decide +kernel
theorem dX12_fitted_99 : decode cX12_fitted 99 = .ok (.iaload, 1) := by decide +kernel
theorem dX12_fitted_100 : decode cX12_fitted 100 = .ok (.istore 11, 2) := by decide +kernel
theorem dX12_fitted_102 : decode cX12_fitted 102 = .ok (.aload_n 0, 1) := by decide +kernel
theorem dX12_fitted_103 : decode cX12_fitted 103 = .ok (.getfield 55, 3) := by decide +kernel
theorem dX12_fitted_106 : decode cX12_fitted 106 = .ok (.iload_n 1, 1) := by decide +kernel
theorem dX12_fitted_107 : decode cX12_fitted 107 = .ok (.iload 10, 2) := by decide +kernel
theorem dX12_fitted_109 : decode cX12_fitted 109 = .ok (.invokestatic 244, 3) := by decide +kernel
theorem dX12_fitted_112 : decode cX12_fitted 112 = .ok (.iaload, 1) := by decide +kernel
theorem dX12_fitted_113 : decode cX12_fitted 113 = .ok (.istore 12, 2) := by decide +kernel
theorem dX12_fitted_115 : decode cX12_fitted 115 = .ok (.lload 8, 2) := by decide +kernel
theorem dX12_fitted_117 : decode cX12_fitted 117 = .ok (.iconst 2, 1) := by decide +kernel
theorem dX12_fitted_118 : decode cX12_fitted 118 = .ok (.iload 6, 2) := by decide +kernel
theorem dX12_fitted_120 : decode cX12_fitted 120 = .ok (.imul, 1) := by decide +kernel
theorem dX12_fitted_121 : decode cX12_fitted 121 = .ok (.aload_n 0, 1) := by decide +kernel
theorem dX12_fitted_122 : decode cX12_fitted 122 = .ok (.iload_n 2, 1) := by decide +kernel
theorem dX12_fitted_123 : decode cX12_fitted 123 = .ok (.iload 11, 2) := by decide +kernel
theorem dX12_fitted_125 : decode cX12_fitted 125 = .ok (.iload 12, 2) := by decide +kernel
theorem dX12_fitted_127 : decode cX12_fitted 127 = .ok (.invokevirtual 301, 3) := by decide +kernel
theorem dX12_fitted_130 : decode cX12_fitted 130 = .ok (.imul, 1) := by decide +kernel
theorem dX12_fitted_131 : decode cX12_fitted 131 = .ok (.iload_n 3, 1) := by decide +kernel
theorem dX12_fitted_132 : decode cX12_fitted 132 = .ok (.iconst (-1), 1) := by decide +kernel
theorem dX12_fitted_133 : decode cX12_fitted 133 = .ok (.if_icmp .ne 7, 3) := by decide +kernel
theorem dX12_fitted_136 : decode cX12_fitted 136 = .ok (.iconst 0, 1) := by decide +kernel
theorem dX12_fitted_137 : decode cX12_fitted 137 = .ok (.goto 17, 3) := by decide +kernel
theorem dX12_fitted_140 : decode cX12_fitted 140 = .ok (.iconst 2, 1) := by decide +kernel
theorem dX12_fitted_141 : decode cX12_fitted 141 = .ok (.iload 7, 2) := by decide +kernel
theorem dX12_fitted_143 : decode cX12_fitted 143 = .ok (.imul, 1) := by decide +kernel
theorem dX12_fitted_144 : decode cX12_fitted 144 = .ok (.aload_n 0, 1) := by decide +kernel
theorem dX12_fitted_145 : decode cX12_fitted 145 = .ok (.iload_n 3, 1) := by decide +kernel
theorem dX12_fitted_146 : decode cX12_fitted 146 = .ok (.iload 11, 2) := by decide +kernel
theorem dX12_fitted_148 : decode cX12_fitted 148 = .ok (.iload 12, 2) := by decide +kernel
theorem dX12_fitted_150 : decode cX12_fitted 150 = .ok (.invokevirtual 301, 3) := by decide +kernel
theorem dX12_fitted_153 : decode cX12_fitted 153 = .ok (.imul, 1) := by decide +kernel
theorem dX12_fitted_154 : decode cX12_fitted 154 = .ok (.iadd, 1) := by decide +kernel
theorem dX12_fitted_155 : decode cX12_fitted 155 = .ok (.aload_n 0, 1) := by decide +kernel
theorem dX12_fitted_156 : decode cX12_fitted 156 = .ok (.iload_n 1, 1) := by decide +kernel
theorem dX12_fitted_157 : decode cX12_fitted 157 = .ok (.iload 10, 2) := by decide +kernel
theorem dX12_fitted_159 : decode cX12_fitted 159 = .ok (.invokevirtual 363, 3) := by decide +kernel
theorem dX12_fitted_162 : decode cX12_fitted 162 = .ok (.isub, 1) := by decide +kernel
theorem dX12_fitted_163 : decode cX12_fitted 163 = .ok (.invokestatic 413, 3) := by decide +kernel
theorem dX12_fitted_166 : decode cX12_fitted 166 = .ok (.i2l, 1) := by decide +kernel
theorem dX12_fitted_167 : decode cX12_fitted 167 = .ok (.ladd, 1) := by decide +kernel
theorem dX12_fitted_168 : decode cX12_fitted 168 = .ok (.lstore 8, 2) := by decide +kernel
theorem dX12_fitted_170 : decode cX12_fitted 170 = .ok (.iinc 10 1, 3) := by decide +kernel
theorem dX12_fitted_173 : decode cX12_fitted 173 = .ok (.goto (-95), 3) := by decide +kernel
theorem dX12_fitted_176 : decode cX12_fitted 176 = .ok (.lload 4, 2) := by decide +kernel
theorem dX12_fitted_178 : decode cX12_fitted 178 = .ok (.lconst 0, 1) := by decide +kernel
theorem dX12_fitted_179 : decode cX12_fitted 179 = .ok (.lcmp, 1) := by decide +kernel
theorem dX12_fitted_180 : decode cX12_fitted 180 = .ok (.ifCond .lt 14, 3) := by decide +kernel
theorem dX12_fitted_183 : decode cX12_fitted 183 = .ok (.lload 8, 2) := by decide +kernel
theorem dX12_fitted_185 : decode cX12_fitted 185 = .ok (.lload 4, 2) := by decide +kernel
theorem dX12_fitted_187 : decode cX12_fitted 187 = .ok (.lcmp, 1) := by decide +kernel
theorem dX12_fitted_188 : decode cX12_fitted 188 = .ok (.ifCond .lt 6, 3) := by decide +kernel
theorem dX12_fitted_191 : decode cX12_fitted 191 = .ok (.goto 19, 3) := by decide +kernel
theorem dX12_fitted_194 : decode cX12_fitted 194 = .ok (.lload 8, 2) := by decide +kernel
theorem dX12_fitted_196 : decode cX12_fitted 196 = .ok (.lstore 4, 2) := by decide +kernel
theorem dX12_fitted_198 : decode cX12_fitted 198 = .ok (.aload_n 0, 1) := by decide +kernel
theorem dX12_fitted_199 : decode cX12_fitted 199 = .ok (.iload 6, 2) := by decide +kernel
theorem dX12_fitted_201 : decode cX12_fitted 201 = .ok (.putfield 134, 3) := by decide +kernel
theorem dX12_fitted_204 : decode cX12_fitted 204 = .ok (.aload_n 0, 1) := by decide +kernel
theorem dX12_fitted_205 : decode cX12_fitted 205 = .ok (.iload 7, 2) := by decide +kernel
theorem dX12_fitted_207 : decode cX12_fitted 207 = .ok (.putfield 416, 3) := by decide +kernel
theorem dX12_fitted_210 : decode cX12_fitted 210 = .ok (.iinc 7 1, 3) := by decide +kernel
theorem dX12_fitted_213 : decode cX12_fitted 213 = .ok (.goto (-157), 3) := by decide +kernel
theorem dX12_fitted_216 : decode cX12_fitted 216 = .ok (.iinc 6 1, 3) := by decide +kernel
theorem dX12_fitted_219 : decode cX12_fitted 219 = .ok (.goto (-173), 3) := by decide +kernel
theorem dX12_fitted_222 : decode cX12_fitted 222 = .ok (.lload 4, 2) := by decide +kernel
theorem dX12_fitted_224 : decode cX12_fitted 224 = .ok (.l2i, 1) := by decide +kernel
theorem dX12_fitted_225 : decode cX12_fitted 225 = .ok (.ireturn, 1) := by decide +kernel
theorem dX12_years_0 : decode cX12_years 0 = .ok (.aload_n 0, 1) := by decide +kernel
theorem dX12_years_1 : decode cX12_years 1 = .ok (.iconst 0, 1) := by decide +kernel
theorem dX12_years_2 : decode cX12_years 2 = .ok (.putfield 158, 3) := by decide +kernel
theorem dX12_years_5 : decode cX12_years 5 = .ok (.aload_n 0, 1) := by decide +kernel
theorem dX12_years_6 : decode cX12_years 6 = .ok (.getfield 134, 3) := by decide +kernel
theorem dX12_years_9 : decode cX12_years 9 = .ok (.iconst (-1), 1) := by decide +kernel
theorem dX12_years_10 : decode cX12_years 10 = .ok (.if_icmp .eq 12, 3) := by decide +kernel
theorem dX12_years_13 : decode cX12_years 13 = .ok (.iload_n 1, 1) := by decide +kernel
theorem dX12_years_14 : decode cX12_years 14 = .ok (.ifCond .lt 8, 3) := by decide +kernel
theorem dX12_years_17 : decode cX12_years 17 = .ok (.iload_n 1, 1) := by decide +kernel
theorem dX12_years_18 : decode cX12_years 18 = .ok (.iconst 1, 1) := by decide +kernel
theorem dX12_years_19 : decode cX12_years 19 = .ok (.if_icmp .le 9, 3) := by decide +kernel
theorem dX12_years_22 : decode cX12_years 22 = .ok (.aload_n 0, 1) := by decide +kernel
theorem dX12_years_23 : decode cX12_years 23 = .ok (.iconst 1, 1) := by decide +kernel
theorem dX12_years_24 : decode cX12_years 24 = .ok (.invokevirtual 263, 3) := by decide +kernel
theorem dX12_years_27 : decode cX12_years 27 = .ok (.ireturn, 1) := by decide +kernel
theorem dX12_years_28 : decode cX12_years 28 = .ok (.iload_n 1, 1) := by decide +kernel
theorem dX12_years_29 : decode cX12_years 29 = .ok (.ifCond .ne 10, 3) := by decide +kernel
theorem dX12_years_32 : decode cX12_years 32 = .ok (.aload_n 0, 1) := by decide +kernel
theorem dX12_years_33 : decode cX12_years 33 = .ok (.getfield 134, 3) := by decide +kernel
theorem dX12_years_36 : decode cX12_years 36 = .ok (.goto 7, 3) := by decide +kernel
theorem dX12_years_39 : decode cX12_years 39 = .ok (.aload_n 0, 1) := by decide +kernel
theorem dX12_years_40 : decode cX12_years 40 = .ok (.getfield 416, 3) := by decide +kernel
theorem dX12_years_43 : decode cX12_years 43 = .ok (.ireturn, 1) := by decide +kernel
theorem dX12_makes_0 : decode cX12_makes 0 = .ok (.iconst 0, 1) := by decide +kernel
theorem dX12_makes_1 : decode cX12_makes 1 = .ok (.istore 4, 2) := by decide +kernel
theorem dX12_makes_3 : decode cX12_makes 3 = .ok (.iconst 0, 1) := by decide +kernel
theorem dX12_makes_4 : decode cX12_makes 4 = .ok (.istore 5, 2) := by decide +kernel
theorem dX12_makes_6 : decode cX12_makes 6 = .ok (.iload 5, 2) := by decide +kernel
theorem dX12_makes_8 : decode cX12_makes 8 = .ok (.aload_n 0, 1) := by decide +kernel
theorem dX12_makes_9 : decode cX12_makes 9 = .ok (.getfield 32, 3) := by decide +kernel
theorem dX12_makes_12 : decode cX12_makes 12 = .ok (.iload_n 2, 1) := by decide +kernel
theorem dX12_makes_13 : decode cX12_makes 13 = .ok (.iaload, 1) := by decide +kernel
theorem dX12_makes_14 : decode cX12_makes 14 = .ok (.if_icmp .ge 50, 3) := by decide +kernel
theorem dX12_makes_17 : decode cX12_makes 17 = .ok (.iload 4, 2) := by decide +kernel
theorem dX12_makes_19 : decode cX12_makes 19 = .ok (.aload_n 0, 1) := by decide +kernel
theorem dX12_makes_20 : decode cX12_makes 20 = .ok (.getfield 50, 3) := by decide +kernel
theorem dX12_makes_23 : decode cX12_makes 23 = .ok (.iload_n 2, 1) := by decide +kernel
theorem dX12_makes_24 : decode cX12_makes 24 = .ok (.iload 5, 2) := by decide +kernel
theorem dX12_makes_26 : decode cX12_makes 26 = .ok (.invokestatic 244, 3) := by decide +kernel
theorem dX12_makes_29 : decode cX12_makes 29 = .ok (.iaload, 1) := by decide +kernel
theorem dX12_makes_30 : decode cX12_makes 30 = .ok (.iload_n 3, 1) := by decide +kernel
theorem dX12_makes_31 : decode cX12_makes 31 = .ok (.if_icmp .ne 23, 3) := by decide +kernel
theorem dX12_makes_34 : decode cX12_makes 34 = .ok (.aload_n 0, 1) := by decide +kernel
theorem dX12_makes_35 : decode cX12_makes 35 = .ok (.iload_n 1, 1) := by decide +kernel
theorem dX12_makes_36 : decode cX12_makes 36 = .ok (.iload_n 3, 1) := by decide +kernel
theorem dX12_makes_37 : decode cX12_makes 37 = .ok (.aload_n 0, 1) := by decide +kernel
theorem dX12_makes_38 : decode cX12_makes 38 = .ok (.getfield 55, 3) := by decide +kernel
theorem dX12_makes_41 : decode cX12_makes 41 = .ok (.iload_n 2, 1) := by decide +kernel
theorem dX12_makes_42 : decode cX12_makes 42 = .ok (.iload 5, 2) := by decide +kernel
theorem dX12_makes_44 : decode cX12_makes 44 = .ok (.invokestatic 244, 3) := by decide +kernel
theorem dX12_makes_47 : decode cX12_makes 47 = .ok (.iaload, 1) := by decide +kernel
theorem dX12_makes_48 : decode cX12_makes 48 = .ok (.invokevirtual 301, 3) := by decide +kernel
theorem dX12_makes_51 : decode cX12_makes 51 = .ok (.goto 4, 3) := by decide +kernel
theorem dX12_makes_54 : decode cX12_makes 54 = .ok (.iconst 0, 1) := by decide +kernel
theorem dX12_makes_55 : decode cX12_makes 55 = .ok (.iadd, 1) := by decide +kernel
theorem dX12_makes_56 : decode cX12_makes 56 = .ok (.istore 4, 2) := by decide +kernel
theorem dX12_makes_58 : decode cX12_makes 58 = .ok (.iinc 5 1, 3) := by decide +kernel
theorem dX12_makes_61 : decode cX12_makes 61 = .ok (.goto (-55), 3) := by decide +kernel
theorem dX12_makes_64 : decode cX12_makes 64 = .ok (.iload 4, 2) := by decide +kernel
theorem dX12_makes_66 : decode cX12_makes 66 = .ok (.aload_n 0, 1) := by decide +kernel
theorem dX12_makes_67 : decode cX12_makes 67 = .ok (.iload_n 2, 1) := by decide +kernel
theorem dX12_makes_68 : decode cX12_makes 68 = .ok (.iload_n 3, 1) := by decide +kernel
theorem dX12_makes_69 : decode cX12_makes 69 = .ok (.invokevirtual 368, 3) := by decide +kernel
theorem dX12_makes_72 : decode cX12_makes 72 = .ok (.idiv, 1) := by decide +kernel
theorem dX12_makes_73 : decode cX12_makes 73 = .ok (.ireturn, 1) := by decide +kernel
theorem dX12_tells_0 : decode cX12_tells 0 = .ok (.iconst 0, 1) := by decide +kernel
theorem dX12_tells_1 : decode cX12_tells 1 = .ok (.istore_n 2, 1) := by decide +kernel
theorem dX12_tells_2 : decode cX12_tells 2 = .ok (.iload_n 2, 1) := by decide +kernel
theorem dX12_tells_3 : decode cX12_tells 3 = .ok (.bipush 12, 2) := by decide +kernel
theorem dX12_tells_5 : decode cX12_tells 5 = .ok (.if_icmp .ge 26, 3) := by decide +kernel
theorem dX12_tells_8 : decode cX12_tells 8 = .ok (.aload_n 0, 1) := by decide +kernel
theorem dX12_tells_9 : decode cX12_tells 9 = .ok (.getfield 90, 3) := by decide +kernel
theorem dX12_tells_12 : decode cX12_tells 12 = .ok (.bipush 12, 2) := by decide +kernel
theorem dX12_tells_14 : decode cX12_tells 14 = .ok (.iload_n 1, 1) := by decide +kernel
theorem dX12_tells_15 : decode cX12_tells 15 = .ok (.imul, 1) := by decide +kernel
theorem dX12_tells_16 : decode cX12_tells 16 = .ok (.iload_n 2, 1) := by decide +kernel
theorem dX12_tells_17 : decode cX12_tells 17 = .ok (.iadd, 1) := by decide +kernel
theorem dX12_tells_18 : decode cX12_tells 18 = .ok (.iaload, 1) := by decide +kernel
theorem dX12_tells_19 : decode cX12_tells 19 = .ok (.iconst (-1), 1) := by decide +kernel
theorem dX12_tells_20 : decode cX12_tells 20 = .ok (.if_icmp .eq 5, 3) := by decide +kernel
theorem dX12_tells_23 : decode cX12_tells 23 = .ok (.iconst 1, 1) := by decide +kernel
theorem dX12_tells_24 : decode cX12_tells 24 = .ok (.ireturn, 1) := by decide +kernel
theorem dX12_tells_25 : decode cX12_tells 25 = .ok (.iinc 2 1, 3) := by decide +kernel
theorem dX12_tells_28 : decode cX12_tells 28 = .ok (.goto (-26), 3) := by decide +kernel
theorem dX12_tells_31 : decode cX12_tells 31 = .ok (.iconst 0, 1) := by decide +kernel
theorem dX12_tells_32 : decode cX12_tells 32 = .ok (.ireturn, 1) := by decide +kernel
theorem dX12_whoseOf_0 : decode cX12_whoseOf 0 = .ok (.lconst 0, 1) := by decide +kernel
theorem dX12_whoseOf_1 : decode cX12_whoseOf 1 = .ok (.lstore_n 2, 1) := by decide +kernel
theorem dX12_whoseOf_2 : decode cX12_whoseOf 2 = .ok (.iconst 0, 1) := by decide +kernel
theorem dX12_whoseOf_3 : decode cX12_whoseOf 3 = .ok (.istore 4, 2) := by decide +kernel
theorem dX12_whoseOf_5 : decode cX12_whoseOf 5 = .ok (.iload 4, 2) := by decide +kernel
theorem dX12_whoseOf_7 : decode cX12_whoseOf 7 = .ok (.bipush 12, 2) := by decide +kernel
theorem dX12_whoseOf_9 : decode cX12_whoseOf 9 = .ok (.if_icmp .ge 34, 3) := by decide +kernel
theorem dX12_whoseOf_12 : decode cX12_whoseOf 12 = .ok (.lload_n 2, 1) := by decide +kernel
theorem dX12_whoseOf_13 : decode cX12_whoseOf 13 = .ok (.aload_n 0, 1) := by decide +kernel
theorem dX12_whoseOf_14 : decode cX12_whoseOf 14 = .ok (.iload_n 1, 1) := by decide +kernel
theorem dX12_whoseOf_15 : decode cX12_whoseOf 15 = .ok (.iload 4, 2) := by decide +kernel
theorem dX12_whoseOf_17 : decode cX12_whoseOf 17 = .ok (.invokevirtual 374, 3) := by decide +kernel
theorem dX12_whoseOf_20 : decode cX12_whoseOf 20 = .ok (.ifCond .eq 14, 3) := by decide +kernel
theorem dX12_whoseOf_23 : decode cX12_whoseOf 23 = .ok (.aload_n 0, 1) := by decide +kernel
theorem dX12_whoseOf_24 : decode cX12_whoseOf 24 = .ok (.iload_n 1, 1) := by decide +kernel
theorem dX12_whoseOf_25 : decode cX12_whoseOf 25 = .ok (.iload 4, 2) := by decide +kernel
theorem dX12_whoseOf_27 : decode cX12_whoseOf 27 = .ok (.invokevirtual 377, 3) := by decide +kernel
theorem dX12_whoseOf_30 : decode cX12_whoseOf 30 = .ok (.i2l, 1) := by decide +kernel
theorem dX12_whoseOf_31 : decode cX12_whoseOf 31 = .ok (.goto 4, 3) := by decide +kernel
theorem dX12_whoseOf_34 : decode cX12_whoseOf 34 = .ok (.lconst 0, 1) := by decide +kernel
theorem dX12_whoseOf_35 : decode cX12_whoseOf 35 = .ok (.ladd, 1) := by decide +kernel
theorem dX12_whoseOf_36 : decode cX12_whoseOf 36 = .ok (.lstore_n 2, 1) := by decide +kernel
theorem dX12_whoseOf_37 : decode cX12_whoseOf 37 = .ok (.iinc 4 1, 3) := by decide +kernel
theorem dX12_whoseOf_40 : decode cX12_whoseOf 40 = .ok (.goto (-35), 3) := by decide +kernel
theorem dX12_whoseOf_43 : decode cX12_whoseOf 43 = .ok (.iconst (-1), 1) := by decide +kernel
theorem dX12_whoseOf_44 : decode cX12_whoseOf 44 = .ok (.istore 4, 2) := by decide +kernel
theorem dX12_whoseOf_46 : decode cX12_whoseOf 46 = .ok (.lconst 0, 1) := by decide +kernel
theorem dX12_whoseOf_47 : decode cX12_whoseOf 47 = .ok (.lstore 5, 2) := by decide +kernel
theorem dX12_whoseOf_49 : decode cX12_whoseOf 49 = .ok (.iconst 0, 1) := by decide +kernel
theorem dX12_whoseOf_50 : decode cX12_whoseOf 50 = .ok (.istore 7, 2) := by decide +kernel
theorem dX12_whoseOf_52 : decode cX12_whoseOf 52 = .ok (.iload 7, 2) := by decide +kernel
theorem dX12_whoseOf_54 : decode cX12_whoseOf 54 = .ok (.bipush 6, 2) := by decide +kernel
theorem dX12_whoseOf_56 : decode cX12_whoseOf 56 = .ok (.if_icmp .ge 159, 3) := by decide +kernel
theorem dX12_whoseOf_59 : decode cX12_whoseOf 59 = .ok (.aload_n 0, 1) := by decide +kernel
theorem dX12_whoseOf_60 : decode cX12_whoseOf 60 = .ok (.iload 7, 2) := by decide +kernel
theorem dX12_whoseOf_62 : decode cX12_whoseOf 62 = .ok (.invokevirtual 419, 3) := by decide +kernel
theorem dX12_whoseOf_65 : decode cX12_whoseOf 65 = .ok (.ifCond .ne 6, 3) := by decide +kernel
theorem dX12_whoseOf_68 : decode cX12_whoseOf 68 = .ok (.goto 141, 3) := by decide +kernel
theorem dX12_whoseOf_71 : decode cX12_whoseOf 71 = .ok (.lconst 0, 1) := by decide +kernel
theorem dX12_whoseOf_72 : decode cX12_whoseOf 72 = .ok (.lstore 8, 2) := by decide +kernel
theorem dX12_whoseOf_74 : decode cX12_whoseOf 74 = .ok (.iconst 0, 1) := by decide +kernel
theorem dX12_whoseOf_75 : decode cX12_whoseOf 75 = .ok (.istore 10, 2) := by decide +kernel
theorem dX12_whoseOf_77 : decode cX12_whoseOf 77 = .ok (.iload 10, 2) := by decide +kernel
theorem dX12_whoseOf_79 : decode cX12_whoseOf 79 = .ok (.bipush 12, 2) := by decide +kernel
theorem dX12_whoseOf_81 : decode cX12_whoseOf 81 = .ok (.if_icmp .ge 38, 3) := by decide +kernel
theorem dX12_whoseOf_84 : decode cX12_whoseOf 84 = .ok (.lload 8, 2) := by decide +kernel
theorem dX12_whoseOf_86 : decode cX12_whoseOf 86 = .ok (.aload_n 0, 1) := by decide +kernel
theorem dX12_whoseOf_87 : decode cX12_whoseOf 87 = .ok (.iload_n 1, 1) := by decide +kernel
theorem dX12_whoseOf_88 : decode cX12_whoseOf 88 = .ok (.iload 10, 2) := by decide +kernel
theorem dX12_whoseOf_90 : decode cX12_whoseOf 90 = .ok (.invokevirtual 374, 3) := by decide +kernel
theorem dX12_whoseOf_93 : decode cX12_whoseOf 93 = .ok (.ifCond .eq 16, 3) := by decide +kernel
theorem dX12_whoseOf_96 : decode cX12_whoseOf 96 = .ok (.aload_n 0, 1) := by decide +kernel
theorem dX12_whoseOf_97 : decode cX12_whoseOf 97 = .ok (.iload 7, 2) := by decide +kernel
theorem dX12_whoseOf_99 : decode cX12_whoseOf 99 = .ok (.iload_n 1, 1) := by decide +kernel
theorem dX12_whoseOf_100 : decode cX12_whoseOf 100 = .ok (.iload 10, 2) := by decide +kernel
theorem dX12_whoseOf_102 : decode cX12_whoseOf 102 = .ok (.invokevirtual 422, 3) := by decide +kernel
theorem dX12_whoseOf_105 : decode cX12_whoseOf 105 = .ok (.i2l, 1) := by decide +kernel
theorem dX12_whoseOf_106 : decode cX12_whoseOf 106 = .ok (.goto 4, 3) := by decide +kernel
theorem dX12_whoseOf_109 : decode cX12_whoseOf 109 = .ok (.lconst 0, 1) := by decide +kernel
theorem dX12_whoseOf_110 : decode cX12_whoseOf 110 = .ok (.ladd, 1) := by decide +kernel
theorem dX12_whoseOf_111 : decode cX12_whoseOf 111 = .ok (.lstore 8, 2) := by decide +kernel
theorem dX12_whoseOf_113 : decode cX12_whoseOf 113 = .ok (.iinc 10 1, 3) := by decide +kernel
theorem dX12_whoseOf_116 : decode cX12_whoseOf 116 = .ok (.goto (-39), 3) := by decide +kernel
theorem dX12_whoseOf_119 : decode cX12_whoseOf 119 = .ok (.lconst 0, 1) := by decide +kernel
theorem dX12_whoseOf_120 : decode cX12_whoseOf 120 = .ok (.lstore 10, 2) := by decide +kernel
theorem dX12_whoseOf_122 : decode cX12_whoseOf 122 = .ok (.iconst 0, 1) := by decide +kernel
theorem dX12_whoseOf_123 : decode cX12_whoseOf 123 = .ok (.istore 12, 2) := by decide +kernel
theorem dX12_whoseOf_125 : decode cX12_whoseOf 125 = .ok (.iload 12, 2) := by decide +kernel
theorem dX12_whoseOf_127 : decode cX12_whoseOf 127 = .ok (.bipush 12, 2) := by decide +kernel
theorem dX12_whoseOf_129 : decode cX12_whoseOf 129 = .ok (.if_icmp .ge 55, 3) := by decide +kernel
theorem dX12_whoseOf_132 : decode cX12_whoseOf 132 = .ok (.lload 10, 2) := by decide +kernel
theorem dX12_whoseOf_134 : decode cX12_whoseOf 134 = .ok (.aload_n 0, 1) := by decide +kernel
theorem dX12_whoseOf_135 : decode cX12_whoseOf 135 = .ok (.iload_n 1, 1) := by decide +kernel
theorem dX12_whoseOf_136 : decode cX12_whoseOf 136 = .ok (.iload 12, 2) := by decide +kernel
theorem dX12_whoseOf_138 : decode cX12_whoseOf 138 = .ok (.invokevirtual 374, 3) := by decide +kernel
theorem dX12_whoseOf_141 : decode cX12_whoseOf 141 = .ok (.ifCond .eq 33, 3) := by decide +kernel
theorem dX12_whoseOf_144 : decode cX12_whoseOf 144 = .ok (.aload_n 0, 1) := by decide +kernel
theorem dX12_whoseOf_145 : decode cX12_whoseOf 145 = .ok (.iload_n 1, 1) := by decide +kernel
theorem dX12_whoseOf_146 : decode cX12_whoseOf 146 = .ok (.iload 12, 2) := by decide +kernel
theorem dX12_whoseOf_148 : decode cX12_whoseOf 148 = .ok (.invokevirtual 377, 3) := by decide +kernel
theorem dX12_whoseOf_151 : decode cX12_whoseOf 151 = .ok (.i2l, 1) := by decide +kernel
theorem dX12_whoseOf_152 : decode cX12_whoseOf 152 = .ok (.lload 8, 2) := by decide +kernel
theorem dX12_whoseOf_154 : decode cX12_whoseOf 154 = .ok (.lmul, 1) := by decide +kernel
theorem dX12_whoseOf_155 : decode cX12_whoseOf 155 = .ok (.aload_n 0, 1) := by decide +kernel
theorem dX12_whoseOf_156 : decode cX12_whoseOf 156 = .ok (.iload 7, 2) := by decide +kernel
theorem dX12_whoseOf_158 : decode cX12_whoseOf 158 = .ok (.iload_n 1, 1) := by decide +kernel
theorem dX12_whoseOf_159 : decode cX12_whoseOf 159 = .ok (.iload 12, 2) := by decide +kernel
theorem dX12_whoseOf_161 : decode cX12_whoseOf 161 = .ok (.invokevirtual 422, 3) := by decide +kernel
theorem dX12_whoseOf_164 : decode cX12_whoseOf 164 = .ok (.i2l, 1) := by decide +kernel
theorem dX12_whoseOf_165 : decode cX12_whoseOf 165 = .ok (.lload_n 2, 1) := by decide +kernel
theorem dX12_whoseOf_166 : decode cX12_whoseOf 166 = .ok (.lmul, 1) := by decide +kernel
theorem dX12_whoseOf_167 : decode cX12_whoseOf 167 = .ok (.lsub, 1) := by decide +kernel
theorem dX12_whoseOf_168 : decode cX12_whoseOf 168 = .ok (.invokestatic 425, 3) := by decide +kernel
theorem dX12_whoseOf_171 : decode cX12_whoseOf 171 = .ok (.goto 4, 3) := by decide +kernel
theorem dX12_whoseOf_174 : decode cX12_whoseOf 174 = .ok (.lconst 0, 1) := by decide +kernel
theorem dX12_whoseOf_175 : decode cX12_whoseOf 175 = .ok (.ladd, 1) := by decide +kernel
theorem dX12_whoseOf_176 : decode cX12_whoseOf 176 = .ok (.lstore 10, 2) := by decide +kernel
theorem dX12_whoseOf_178 : decode cX12_whoseOf 178 = .ok (.iinc 12 1, 3) := by decide +kernel
theorem dX12_whoseOf_181 : decode cX12_whoseOf 181 = .ok (.goto (-56), 3) := by decide +kernel
theorem dX12_whoseOf_184 : decode cX12_whoseOf 184 = .ok (.iload 4, 2) := by decide +kernel
theorem dX12_whoseOf_186 : decode cX12_whoseOf 186 = .ok (.iconst (-1), 1) := by decide +kernel
theorem dX12_whoseOf_187 : decode cX12_whoseOf 187 = .ok (.if_icmp .eq 14, 3) := by decide +kernel
theorem dX12_whoseOf_190 : decode cX12_whoseOf 190 = .ok (.lload 10, 2) := by decide +kernel
theorem dX12_whoseOf_192 : decode cX12_whoseOf 192 = .ok (.lload 5, 2) := by decide +kernel
theorem dX12_whoseOf_194 : decode cX12_whoseOf 194 = .ok (.lcmp, 1) := by decide +kernel
theorem dX12_whoseOf_195 : decode cX12_whoseOf 195 = .ok (.ifCond .lt 6, 3) := by decide +kernel
theorem dX12_whoseOf_198 : decode cX12_whoseOf 198 = .ok (.goto 11, 3) := by decide +kernel
theorem dX12_whoseOf_201 : decode cX12_whoseOf 201 = .ok (.iload 7, 2) := by decide +kernel
theorem dX12_whoseOf_203 : decode cX12_whoseOf 203 = .ok (.istore 4, 2) := by decide +kernel
theorem dX12_whoseOf_205 : decode cX12_whoseOf 205 = .ok (.lload 10, 2) := by decide +kernel
theorem dX12_whoseOf_207 : decode cX12_whoseOf 207 = .ok (.lstore 5, 2) := by decide +kernel
theorem dX12_whoseOf_209 : decode cX12_whoseOf 209 = .ok (.iinc 7 1, 3) := by decide +kernel
theorem dX12_whoseOf_212 : decode cX12_whoseOf 212 = .ok (.goto (-160), 3) := by decide +kernel
theorem dX12_whoseOf_215 : decode cX12_whoseOf 215 = .ok (.iload 4, 2) := by decide +kernel
theorem dX12_whoseOf_217 : decode cX12_whoseOf 217 = .ok (.ireturn, 1) := by decide +kernel
theorem dX12_whose_0 : decode cX12_whose 0 = .ok (.aload_n 0, 1) := by decide +kernel
theorem dX12_whose_1 : decode cX12_whose 1 = .ok (.iconst 0, 1) := by decide +kernel
theorem dX12_whose_2 : decode cX12_whose 2 = .ok (.putfield 158, 3) := by decide +kernel
theorem dX12_whose_5 : decode cX12_whose 5 = .ok (.aload_n 0, 1) := by decide +kernel
theorem dX12_whose_6 : decode cX12_whose 6 = .ok (.iload_n 1, 1) := by decide +kernel
theorem dX12_whose_7 : decode cX12_whose 7 = .ok (.invokevirtual 371, 3) := by decide +kernel
theorem dX12_whose_10 : decode cX12_whose 10 = .ok (.ifCond .eq 11, 3) := by decide +kernel
theorem dX12_whose_13 : decode cX12_whose 13 = .ok (.aload_n 0, 1) := by decide +kernel
theorem dX12_whose_14 : decode cX12_whose 14 = .ok (.iload_n 1, 1) := by decide +kernel
theorem dX12_whose_15 : decode cX12_whose 15 = .ok (.invokevirtual 428, 3) := by decide +kernel
theorem dX12_whose_18 : decode cX12_whose 18 = .ok (.goto 8, 3) := by decide +kernel
theorem dX12_whose_21 : decode cX12_whose 21 = .ok (.aload_n 0, 1) := by decide +kernel
theorem dX12_whose_22 : decode cX12_whose 22 = .ok (.iconst 1, 1) := by decide +kernel
theorem dX12_whose_23 : decode cX12_whose 23 = .ok (.invokevirtual 263, 3) := by decide +kernel
theorem dX12_whose_26 : decode cX12_whose 26 = .ok (.ireturn, 1) := by decide +kernel
theorem dX12_lay_0 : decode cX12_lay 0 = .ok (.iconst 0, 1) := by decide +kernel
theorem dX12_lay_1 : decode cX12_lay 1 = .ok (.istore 4, 2) := by decide +kernel
theorem dX12_lay_3 : decode cX12_lay 3 = .ok (.iconst 0, 1) := by decide +kernel
theorem dX12_lay_4 : decode cX12_lay 4 = .ok (.istore 5, 2) := by decide +kernel
theorem dX12_lay_6 : decode cX12_lay 6 = .ok (.iload 5, 2) := by decide +kernel
theorem dX12_lay_8 : decode cX12_lay 8 = .ok (.aload_n 0, 1) := by decide +kernel
theorem dX12_lay_9 : decode cX12_lay 9 = .ok (.getfield 32, 3) := by decide +kernel
theorem dX12_lay_12 : decode cX12_lay 12 = .ok (.iload_n 1, 1) := by decide +kernel
theorem dX12_lay_13 : decode cX12_lay 13 = .ok (.iaload, 1) := by decide +kernel
theorem dX12_lay_14 : decode cX12_lay 14 = .ok (.if_icmp .ge 39, 3) := by decide +kernel
theorem dX12_lay_17 : decode cX12_lay 17 = .ok (.iload 5, 2) := by decide +kernel
theorem dX12_lay_19 : decode cX12_lay 19 = .ok (.iload_n 2, 1) := by decide +kernel
theorem dX12_lay_20 : decode cX12_lay 20 = .ok (.if_icmp .ne 6, 3) := by decide +kernel
theorem dX12_lay_23 : decode cX12_lay 23 = .ok (.goto 24, 3) := by decide +kernel
theorem dX12_lay_26 : decode cX12_lay 26 = .ok (.iload 4, 2) := by decide +kernel
theorem dX12_lay_28 : decode cX12_lay 28 = .ok (.iload_n 3, 1) := by decide +kernel
theorem dX12_lay_29 : decode cX12_lay 29 = .ok (.if_icmp .ne 6, 3) := by decide +kernel
theorem dX12_lay_32 : decode cX12_lay 32 = .ok (.iinc 4 1, 3) := by decide +kernel
theorem dX12_lay_35 : decode cX12_lay 35 = .ok (.aload_n 0, 1) := by decide +kernel
theorem dX12_lay_36 : decode cX12_lay 36 = .ok (.getfield 137, 3) := by decide +kernel
theorem dX12_lay_39 : decode cX12_lay 39 = .ok (.iload 4, 2) := by decide +kernel
theorem dX12_lay_41 : decode cX12_lay 41 = .ok (.iload 5, 2) := by decide +kernel
theorem dX12_lay_43 : decode cX12_lay 43 = .ok (.iastore, 1) := by decide +kernel
theorem dX12_lay_44 : decode cX12_lay 44 = .ok (.iinc 4 1, 3) := by decide +kernel
theorem dX12_lay_47 : decode cX12_lay 47 = .ok (.iinc 5 1, 3) := by decide +kernel
theorem dX12_lay_50 : decode cX12_lay 50 = .ok (.goto (-44), 3) := by decide +kernel
theorem dX12_lay_53 : decode cX12_lay 53 = .ok (.iload_n 2, 1) := by decide +kernel
theorem dX12_lay_54 : decode cX12_lay 54 = .ok (.iconst (-1), 1) := by decide +kernel
theorem dX12_lay_55 : decode cX12_lay 55 = .ok (.if_icmp .eq 10, 3) := by decide +kernel
theorem dX12_lay_58 : decode cX12_lay 58 = .ok (.aload_n 0, 1) := by decide +kernel
theorem dX12_lay_59 : decode cX12_lay 59 = .ok (.getfield 137, 3) := by decide +kernel
theorem dX12_lay_62 : decode cX12_lay 62 = .ok (.iload_n 3, 1) := by decide +kernel
theorem dX12_lay_63 : decode cX12_lay 63 = .ok (.iload_n 2, 1) := by decide +kernel
theorem dX12_lay_64 : decode cX12_lay 64 = .ok (.iastore, 1) := by decide +kernel
theorem dX12_lay_65 : decode cX12_lay 65 = .ok (.return_, 1) := by decide +kernel
theorem dX12_want_0 : decode cX12_want 0 = .ok (.lconst 0, 1) := by decide +kernel
theorem dX12_want_1 : decode cX12_want 1 = .ok (.lstore_n 2, 1) := by decide +kernel
theorem dX12_want_2 : decode cX12_want 2 = .ok (.iconst 0, 1) := by decide +kernel
theorem dX12_want_3 : decode cX12_want 3 = .ok (.istore 4, 2) := by decide +kernel
theorem dX12_want_5 : decode cX12_want 5 = .ok (.iload 4, 2) := by decide +kernel
theorem dX12_want_7 : decode cX12_want 7 = .ok (.aload_n 0, 1) := by decide +kernel
theorem dX12_want_8 : decode cX12_want 8 = .ok (.getfield 32, 3) := by decide +kernel
theorem dX12_want_11 : decode cX12_want 11 = .ok (.iload_n 1, 1) := by decide +kernel
theorem dX12_want_12 : decode cX12_want 12 = .ok (.iaload, 1) := by decide +kernel
theorem dX12_want_13 : decode cX12_want 13 = .ok (.if_icmp .ge 48, 3) := by decide +kernel
theorem dX12_want_16 : decode cX12_want 16 = .ok (.lload_n 2, 1) := by decide +kernel
theorem dX12_want_17 : decode cX12_want 17 = .ok (.iconst 0, 1) := by decide +kernel
theorem dX12_want_18 : decode cX12_want 18 = .ok (.aload_n 0, 1) := by decide +kernel
theorem dX12_want_19 : decode cX12_want 19 = .ok (.iload_n 1, 1) := by decide +kernel
theorem dX12_want_20 : decode cX12_want 20 = .ok (.aload_n 0, 1) := by decide +kernel
theorem dX12_want_21 : decode cX12_want 21 = .ok (.getfield 137, 3) := by decide +kernel
theorem dX12_want_24 : decode cX12_want 24 = .ok (.iload 4, 2) := by decide +kernel
theorem dX12_want_26 : decode cX12_want 26 = .ok (.iaload, 1) := by decide +kernel
theorem dX12_want_27 : decode cX12_want 27 = .ok (.iload 4, 2) := by decide +kernel
theorem dX12_want_29 : decode cX12_want 29 = .ok (.ifCond .ne 7, 3) := by decide +kernel
theorem dX12_want_32 : decode cX12_want 32 = .ok (.iconst (-1), 1) := by decide +kernel
theorem dX12_want_33 : decode cX12_want 33 = .ok (.goto 12, 3) := by decide +kernel
theorem dX12_want_36 : decode cX12_want 36 = .ok (.aload_n 0, 1) := by decide +kernel
theorem dX12_want_37 : decode cX12_want 37 = .ok (.getfield 137, 3) := by decide +kernel
theorem dX12_want_40 : decode cX12_want 40 = .ok (.iload 4, 2) := by decide +kernel
theorem dX12_want_42 : decode cX12_want 42 = .ok (.iconst 1, 1) := by decide +kernel
theorem dX12_want_43 : decode cX12_want 43 = .ok (.isub, 1) := by decide +kernel
theorem dX12_want_44 : decode cX12_want 44 = .ok (.iaload, 1) := by decide +kernel
theorem dX12_want_45 : decode cX12_want 45 = .ok (.invokevirtual 345, 3) := by decide +kernel
theorem dX12_want_48 : decode cX12_want 48 = .ok (.ineg, 1) := by decide +kernel
theorem dX12_want_49 : decode cX12_want 49 = .ok (.invokestatic 298, 3) := by decide +kernel
theorem dX12_want_52 : decode cX12_want 52 = .ok (.i2l, 1) := by decide +kernel
theorem dX12_want_53 : decode cX12_want 53 = .ok (.ladd, 1) := by decide +kernel
theorem dX12_want_54 : decode cX12_want 54 = .ok (.lstore_n 2, 1) := by decide +kernel
theorem dX12_want_55 : decode cX12_want 55 = .ok (.iinc 4 1, 3) := by decide +kernel
theorem dX12_want_58 : decode cX12_want 58 = .ok (.goto (-53), 3) := by decide +kernel
theorem dX12_want_61 : decode cX12_want 61 = .ok (.lload_n 2, 1) := by decide +kernel
theorem dX12_want_62 : decode cX12_want 62 = .ok (.lreturn, 1) := by decide +kernel
theorem dX12_order_0 : decode cX12_order 0 = .ok (.aload_n 0, 1) := by decide +kernel
theorem dX12_order_1 : decode cX12_order 1 = .ok (.iconst 0, 1) := by decide +kernel
theorem dX12_order_2 : decode cX12_order 2 = .ok (.putfield 158, 3) := by decide +kernel
theorem dX12_order_5 : decode cX12_order 5 = .ok (.aload_n 0, 1) := by decide +kernel
theorem dX12_order_6 : decode cX12_order 6 = .ok (.iload_n 1, 1) := by decide +kernel
theorem dX12_order_7 : decode cX12_order 7 = .ok (.invokevirtual 371, 3) := by decide +kernel
theorem dX12_order_10 : decode cX12_order 10 = .ok (.ifCond .eq 12, 3) := by decide +kernel
theorem dX12_order_13 : decode cX12_order 13 = .ok (.iload_n 2, 1) := by decide +kernel
theorem dX12_order_14 : decode cX12_order 14 = .ok (.iconst 0, 1) := by decide +kernel
theorem dX12_order_15 : decode cX12_order 15 = .ok (.iconst 3, 1) := by decide +kernel
theorem dX12_order_16 : decode cX12_order 16 = .ok (.invokestatic 161, 3) := by decide +kernel
theorem dX12_order_19 : decode cX12_order 19 = .ok (.ifCond .ne 9, 3) := by decide +kernel
theorem dX12_order_22 : decode cX12_order 22 = .ok (.aload_n 0, 1) := by decide +kernel
theorem dX12_order_23 : decode cX12_order 23 = .ok (.iconst 1, 1) := by decide +kernel
theorem dX12_order_24 : decode cX12_order 24 = .ok (.invokevirtual 263, 3) := by decide +kernel
theorem dX12_order_27 : decode cX12_order 27 = .ok (.ireturn, 1) := by decide +kernel
theorem dX12_order_28 : decode cX12_order 28 = .ok (.aload_n 0, 1) := by decide +kernel
theorem dX12_order_29 : decode cX12_order 29 = .ok (.iload_n 1, 1) := by decide +kernel
theorem dX12_order_30 : decode cX12_order 30 = .ok (.iconst (-1), 1) := by decide +kernel
theorem dX12_order_31 : decode cX12_order 31 = .ok (.iconst (-1), 1) := by decide +kernel
theorem dX12_order_32 : decode cX12_order 32 = .ok (.invokevirtual 431, 3) := by decide +kernel
theorem dX12_order_35 : decode cX12_order 35 = .ok (.aload_n 0, 1) := by decide +kernel
theorem dX12_order_36 : decode cX12_order 36 = .ok (.iload_n 1, 1) := by decide +kernel
theorem dX12_order_37 : decode cX12_order 37 = .ok (.invokevirtual 435, 3) := by decide +kernel
theorem dX12_order_40 : decode cX12_order 40 = .ok (.lstore_n 3, 1) := by decide +kernel
theorem dX12_order_41 : decode cX12_order 41 = .ok (.lload_n 3, 1) := by decide +kernel
theorem dX12_order_42 : decode cX12_order 42 = .ok (.lstore 5, 2) := by decide +kernel
theorem dX12_order_44 : decode cX12_order 44 = .ok (.iconst (-1), 1) := by decide +kernel
theorem dX12_order_45 : decode cX12_order 45 = .ok (.istore 7, 2) := by decide +kernel
theorem dX12_order_47 : decode cX12_order 47 = .ok (.iconst (-1), 1) := by decide +kernel
theorem dX12_order_48 : decode cX12_order 48 = .ok (.istore 8, 2) := by decide +kernel
theorem dX12_order_50 : decode cX12_order 50 = .ok (.iconst 0, 1) := by decide +kernel
theorem dX12_order_51 : decode cX12_order 51 = .ok (.istore 9, 2) := by decide +kernel
theorem dX12_order_53 : decode cX12_order 53 = .ok (.iload 9, 2) := by decide +kernel
theorem dX12_order_55 : decode cX12_order 55 = .ok (.aload_n 0, 1) := by decide +kernel
theorem dX12_order_56 : decode cX12_order 56 = .ok (.getfield 32, 3) := by decide +kernel
theorem dX12_order_59 : decode cX12_order 59 = .ok (.iload_n 1, 1) := by decide +kernel
theorem dX12_order_60 : decode cX12_order 60 = .ok (.iaload, 1) := by decide +kernel
theorem dX12_order_61 : decode cX12_order 61 = .ok (.if_icmp .ge 72, 3) := by decide +kernel
theorem dX12_order_64 : decode cX12_order 64 = .ok (.iload_n 2, 1) := by decide +kernel
theorem dX12_order_65 : decode cX12_order 65 = .ok (.ifCond .le 68, 3) := by decide +kernel
theorem dX12_order_68 : decode cX12_order 68 = .ok (.iconst 0, 1) := by decide +kernel
theorem dX12_order_69 : decode cX12_order 69 = .ok (.istore 10, 2) := by decide +kernel
theorem dX12_order_71 : decode cX12_order 71 = .ok (.iload 10, 2) := by decide +kernel
theorem dX12_order_73 : decode cX12_order 73 = .ok (.aload_n 0, 1) := by decide +kernel
theorem dX12_order_74 : decode cX12_order 74 = .ok (.getfield 32, 3) := by decide +kernel
theorem dX12_order_77 : decode cX12_order 77 = .ok (.iload_n 1, 1) := by decide +kernel
theorem dX12_order_78 : decode cX12_order 78 = .ok (.iaload, 1) := by decide +kernel
theorem dX12_order_79 : decode cX12_order 79 = .ok (.if_icmp .ge 48, 3) := by decide +kernel
theorem dX12_order_82 : decode cX12_order 82 = .ok (.aload_n 0, 1) := by decide +kernel
theorem dX12_order_83 : decode cX12_order 83 = .ok (.iload_n 1, 1) := by decide +kernel
theorem dX12_order_84 : decode cX12_order 84 = .ok (.iload 9, 2) := by decide +kernel
theorem dX12_order_86 : decode cX12_order 86 = .ok (.iload 10, 2) := by decide +kernel
theorem dX12_order_88 : decode cX12_order 88 = .ok (.invokevirtual 431, 3) := by decide +kernel
theorem dX12_order_91 : decode cX12_order 91 = .ok (.aload_n 0, 1) := by decide +kernel
theorem dX12_order_92 : decode cX12_order 92 = .ok (.iload_n 1, 1) := by decide +kernel
theorem dX12_order_93 : decode cX12_order 93 = .ok (.invokevirtual 435, 3) := by decide +kernel
theorem dX12_order_96 : decode cX12_order 96 = .ok (.lstore 11, 2) := by decide +kernel
theorem dX12_order_98 : decode cX12_order 98 = .ok (.lload 11, 2) := by decide +kernel
theorem dX12_order_100 : decode cX12_order 100 = .ok (.lload 5, 2) := by decide +kernel
theorem dX12_order_102 : decode cX12_order 102 = .ok (.lcmp, 1) := by decide +kernel
theorem dX12_order_103 : decode cX12_order 103 = .ok (.ifCond .lt 6, 3) := by decide +kernel
theorem dX12_order_106 : decode cX12_order 106 = .ok (.goto 15, 3) := by decide +kernel
theorem dX12_order_109 : decode cX12_order 109 = .ok (.lload 11, 2) := by decide +kernel
theorem dX12_order_111 : decode cX12_order 111 = .ok (.lstore 5, 2) := by decide +kernel
theorem dX12_order_113 : decode cX12_order 113 = .ok (.iload 9, 2) := by decide +kernel
theorem dX12_order_115 : decode cX12_order 115 = .ok (.istore 7, 2) := by decide +kernel
theorem dX12_order_117 : decode cX12_order 117 = .ok (.iload 10, 2) := by decide +kernel
theorem dX12_order_119 : decode cX12_order 119 = .ok (.istore 8, 2) := by decide +kernel
theorem dX12_order_121 : decode cX12_order 121 = .ok (.iinc 10 1, 3) := by decide +kernel
theorem dX12_order_124 : decode cX12_order 124 = .ok (.goto (-53), 3) := by decide +kernel
theorem dX12_order_127 : decode cX12_order 127 = .ok (.iinc 9 1, 3) := by decide +kernel
theorem dX12_order_130 : decode cX12_order 130 = .ok (.goto (-77), 3) := by decide +kernel
theorem dX12_order_133 : decode cX12_order 133 = .ok (.iload_n 2, 1) := by decide +kernel
theorem dX12_order_134 : decode cX12_order 134 = .ok (.ifCond .ne 8, 3) := by decide +kernel
theorem dX12_order_137 : decode cX12_order 137 = .ok (.lload_n 3, 1) := by decide +kernel
theorem dX12_order_138 : decode cX12_order 138 = .ok (.l2i, 1) := by decide +kernel
theorem dX12_order_139 : decode cX12_order 139 = .ok (.goto 36, 3) := by decide +kernel
theorem dX12_order_142 : decode cX12_order 142 = .ok (.iload_n 2, 1) := by decide +kernel
theorem dX12_order_143 : decode cX12_order 143 = .ok (.iconst 1, 1) := by decide +kernel
theorem dX12_order_144 : decode cX12_order 144 = .ok (.if_icmp .ne 8, 3) := by decide +kernel
theorem dX12_order_147 : decode cX12_order 147 = .ok (.iload 7, 2) := by decide +kernel
theorem dX12_order_149 : decode cX12_order 149 = .ok (.goto 26, 3) := by decide +kernel
theorem dX12_order_152 : decode cX12_order 152 = .ok (.iload_n 2, 1) := by decide +kernel
theorem dX12_order_153 : decode cX12_order 153 = .ok (.iconst 2, 1) := by decide +kernel
theorem dX12_order_154 : decode cX12_order 154 = .ok (.if_icmp .ne 8, 3) := by decide +kernel
theorem dX12_order_157 : decode cX12_order 157 = .ok (.iload 8, 2) := by decide +kernel
theorem dX12_order_159 : decode cX12_order 159 = .ok (.goto 16, 3) := by decide +kernel
theorem dX12_order_162 : decode cX12_order 162 = .ok (.iload 7, 2) := by decide +kernel
theorem dX12_order_164 : decode cX12_order 164 = .ok (.iconst (-1), 1) := by decide +kernel
theorem dX12_order_165 : decode cX12_order 165 = .ok (.if_icmp .ne 7, 3) := by decide +kernel
theorem dX12_order_168 : decode cX12_order 168 = .ok (.iconst (-1), 1) := by decide +kernel
theorem dX12_order_169 : decode cX12_order 169 = .ok (.goto 6, 3) := by decide +kernel
theorem dX12_order_172 : decode cX12_order 172 = .ok (.lload 5, 2) := by decide +kernel
theorem dX12_order_174 : decode cX12_order 174 = .ok (.l2i, 1) := by decide +kernel
theorem dX12_order_175 : decode cX12_order 175 = .ok (.ireturn, 1) := by decide +kernel
theorem dX12_isOpen_0 : decode cX12_isOpen 0 = .ok (.iload_n 2, 1) := by decide +kernel
theorem dX12_isOpen_1 : decode cX12_isOpen 1 = .ok (.iconst 1, 1) := by decide +kernel
theorem dX12_isOpen_2 : decode cX12_isOpen 2 = .ok (.iadd, 1) := by decide +kernel
theorem dX12_isOpen_3 : decode cX12_isOpen 3 = .ok (.aload_n 0, 1) := by decide +kernel
theorem dX12_isOpen_4 : decode cX12_isOpen 4 = .ok (.getfield 32, 3) := by decide +kernel
theorem dX12_isOpen_7 : decode cX12_isOpen 7 = .ok (.iload_n 1, 1) := by decide +kernel
theorem dX12_isOpen_8 : decode cX12_isOpen 8 = .ok (.iaload, 1) := by decide +kernel
theorem dX12_isOpen_9 : decode cX12_isOpen 9 = .ok (.if_icmp .lt 5, 3) := by decide +kernel
theorem dX12_isOpen_12 : decode cX12_isOpen 12 = .ok (.iconst 0, 1) := by decide +kernel
theorem dX12_isOpen_13 : decode cX12_isOpen 13 = .ok (.ireturn, 1) := by decide +kernel
theorem dX12_isOpen_14 : decode cX12_isOpen 14 = .ok (.aload_n 0, 1) := by decide +kernel
theorem dX12_isOpen_15 : decode cX12_isOpen 15 = .ok (.iload_n 1, 1) := by decide +kernel
theorem dX12_isOpen_16 : decode cX12_isOpen 16 = .ok (.iload_n 2, 1) := by decide +kernel
theorem dX12_isOpen_17 : decode cX12_isOpen 17 = .ok (.invokevirtual 351, 3) := by decide +kernel
theorem dX12_isOpen_20 : decode cX12_isOpen 20 = .ok (.aload_n 0, 1) := by decide +kernel
theorem dX12_isOpen_21 : decode cX12_isOpen 21 = .ok (.iload_n 1, 1) := by decide +kernel
theorem dX12_isOpen_22 : decode cX12_isOpen 22 = .ok (.iload_n 2, 1) := by decide +kernel
theorem dX12_isOpen_23 : decode cX12_isOpen 23 = .ok (.iconst 1, 1) := by decide +kernel
theorem dX12_isOpen_24 : decode cX12_isOpen 24 = .ok (.iadd, 1) := by decide +kernel
theorem dX12_isOpen_25 : decode cX12_isOpen 25 = .ok (.invokevirtual 351, 3) := by decide +kernel
theorem dX12_isOpen_28 : decode cX12_isOpen 28 = .ok (.invokestatic 198, 3) := by decide +kernel
theorem dX12_isOpen_31 : decode cX12_isOpen 31 = .ok (.istore_n 3, 1) := by decide +kernel
theorem dX12_isOpen_32 : decode cX12_isOpen 32 = .ok (.iconst 0, 1) := by decide +kernel
theorem dX12_isOpen_33 : decode cX12_isOpen 33 = .ok (.istore 4, 2) := by decide +kernel
theorem dX12_isOpen_35 : decode cX12_isOpen 35 = .ok (.iload 4, 2) := by decide +kernel
theorem dX12_isOpen_37 : decode cX12_isOpen 37 = .ok (.aload_n 0, 1) := by decide +kernel
theorem dX12_isOpen_38 : decode cX12_isOpen 38 = .ok (.getfield 32, 3) := by decide +kernel
theorem dX12_isOpen_41 : decode cX12_isOpen 41 = .ok (.iload_n 1, 1) := by decide +kernel
theorem dX12_isOpen_42 : decode cX12_isOpen 42 = .ok (.iaload, 1) := by decide +kernel
theorem dX12_isOpen_43 : decode cX12_isOpen 43 = .ok (.if_icmp .ge 101, 3) := by decide +kernel
theorem dX12_isOpen_46 : decode cX12_isOpen 46 = .ok (.iload 4, 2) := by decide +kernel
theorem dX12_isOpen_48 : decode cX12_isOpen 48 = .ok (.iload_n 2, 1) := by decide +kernel
theorem dX12_isOpen_49 : decode cX12_isOpen 49 = .ok (.if_icmp .eq 89, 3) := by decide +kernel
theorem dX12_isOpen_52 : decode cX12_isOpen 52 = .ok (.iload 4, 2) := by decide +kernel
theorem dX12_isOpen_54 : decode cX12_isOpen 54 = .ok (.iload_n 2, 1) := by decide +kernel
theorem dX12_isOpen_55 : decode cX12_isOpen 55 = .ok (.iconst 1, 1) := by decide +kernel
theorem dX12_isOpen_56 : decode cX12_isOpen 56 = .ok (.iadd, 1) := by decide +kernel
theorem dX12_isOpen_57 : decode cX12_isOpen 57 = .ok (.if_icmp .ne 6, 3) := by decide +kernel
theorem dX12_isOpen_60 : decode cX12_isOpen 60 = .ok (.goto 78, 3) := by decide +kernel
theorem dX12_isOpen_63 : decode cX12_isOpen 63 = .ok (.aload_n 0, 1) := by decide +kernel
theorem dX12_isOpen_64 : decode cX12_isOpen 64 = .ok (.getfield 53, 3) := by decide +kernel
theorem dX12_isOpen_67 : decode cX12_isOpen 67 = .ok (.iload_n 1, 1) := by decide +kernel
theorem dX12_isOpen_68 : decode cX12_isOpen 68 = .ok (.iload 4, 2) := by decide +kernel
theorem dX12_isOpen_70 : decode cX12_isOpen 70 = .ok (.invokestatic 244, 3) := by decide +kernel
theorem dX12_isOpen_73 : decode cX12_isOpen 73 = .ok (.iaload, 1) := by decide +kernel
theorem dX12_isOpen_74 : decode cX12_isOpen 74 = .ok (.aload_n 0, 1) := by decide +kernel
theorem dX12_isOpen_75 : decode cX12_isOpen 75 = .ok (.getfield 53, 3) := by decide +kernel
theorem dX12_isOpen_78 : decode cX12_isOpen 78 = .ok (.iload_n 1, 1) := by decide +kernel
theorem dX12_isOpen_79 : decode cX12_isOpen 79 = .ok (.iload_n 2, 1) := by decide +kernel
theorem dX12_isOpen_80 : decode cX12_isOpen 80 = .ok (.invokestatic 244, 3) := by decide +kernel
theorem dX12_isOpen_83 : decode cX12_isOpen 83 = .ok (.iaload, 1) := by decide +kernel
theorem dX12_isOpen_84 : decode cX12_isOpen 84 = .ok (.if_icmp .eq 29, 3) := by decide +kernel
theorem dX12_isOpen_87 : decode cX12_isOpen 87 = .ok (.aload_n 0, 1) := by decide +kernel
theorem dX12_isOpen_88 : decode cX12_isOpen 88 = .ok (.getfield 53, 3) := by decide +kernel
theorem dX12_isOpen_91 : decode cX12_isOpen 91 = .ok (.iload_n 1, 1) := by decide +kernel
theorem dX12_isOpen_92 : decode cX12_isOpen 92 = .ok (.iload 4, 2) := by decide +kernel
theorem dX12_isOpen_94 : decode cX12_isOpen 94 = .ok (.invokestatic 244, 3) := by decide +kernel
theorem dX12_isOpen_97 : decode cX12_isOpen 97 = .ok (.iaload, 1) := by decide +kernel
theorem dX12_isOpen_98 : decode cX12_isOpen 98 = .ok (.aload_n 0, 1) := by decide +kernel
theorem dX12_isOpen_99 : decode cX12_isOpen 99 = .ok (.getfield 53, 3) := by decide +kernel
theorem dX12_isOpen_102 : decode cX12_isOpen 102 = .ok (.iload_n 1, 1) := by decide +kernel
theorem dX12_isOpen_103 : decode cX12_isOpen 103 = .ok (.iload_n 2, 1) := by decide +kernel
theorem dX12_isOpen_104 : decode cX12_isOpen 104 = .ok (.iconst 1, 1) := by decide +kernel
theorem dX12_isOpen_105 : decode cX12_isOpen 105 = .ok (.iadd, 1) := by decide +kernel
theorem dX12_isOpen_106 : decode cX12_isOpen 106 = .ok (.invokestatic 244, 3) := by decide +kernel
theorem dX12_isOpen_109 : decode cX12_isOpen 109 = .ok (.iaload, 1) := by decide +kernel
theorem dX12_isOpen_110 : decode cX12_isOpen 110 = .ok (.if_icmp .ne 7, 3) := by decide +kernel
theorem dX12_isOpen_113 : decode cX12_isOpen 113 = .ok (.iconst 1, 1) := by decide +kernel
theorem dX12_isOpen_114 : decode cX12_isOpen 114 = .ok (.goto 4, 3) := by decide +kernel
theorem dX12_isOpen_117 : decode cX12_isOpen 117 = .ok (.iconst 0, 1) := by decide +kernel
theorem dX12_isOpen_118 : decode cX12_isOpen 118 = .ok (.istore 5, 2) := by decide +kernel
theorem dX12_isOpen_120 : decode cX12_isOpen 120 = .ok (.iload 5, 2) := by decide +kernel
theorem dX12_isOpen_122 : decode cX12_isOpen 122 = .ok (.ifCond .eq 16, 3) := by decide +kernel
theorem dX12_isOpen_125 : decode cX12_isOpen 125 = .ok (.aload_n 0, 1) := by decide +kernel
theorem dX12_isOpen_126 : decode cX12_isOpen 126 = .ok (.iload_n 1, 1) := by decide +kernel
theorem dX12_isOpen_127 : decode cX12_isOpen 127 = .ok (.iload 4, 2) := by decide +kernel
theorem dX12_isOpen_129 : decode cX12_isOpen 129 = .ok (.invokevirtual 354, 3) := by decide +kernel
theorem dX12_isOpen_132 : decode cX12_isOpen 132 = .ok (.iload_n 3, 1) := by decide +kernel
theorem dX12_isOpen_133 : decode cX12_isOpen 133 = .ok (.if_icmp .lt 5, 3) := by decide +kernel
theorem dX12_isOpen_136 : decode cX12_isOpen 136 = .ok (.iconst 0, 1) := by decide +kernel
theorem dX12_isOpen_137 : decode cX12_isOpen 137 = .ok (.ireturn, 1) := by decide +kernel
theorem dX12_isOpen_138 : decode cX12_isOpen 138 = .ok (.iinc 4 1, 3) := by decide +kernel
theorem dX12_isOpen_141 : decode cX12_isOpen 141 = .ok (.goto (-106), 3) := by decide +kernel
theorem dX12_isOpen_144 : decode cX12_isOpen 144 = .ok (.iconst 1, 1) := by decide +kernel
theorem dX12_isOpen_145 : decode cX12_isOpen 145 = .ok (.ireturn, 1) := by decide +kernel
theorem dX12_falls_0 : decode cX12_falls 0 = .ok (.aload_n 0, 1) := by decide +kernel
theorem dX12_falls_1 : decode cX12_falls 1 = .ok (.iconst 0, 1) := by decide +kernel
theorem dX12_falls_2 : decode cX12_falls 2 = .ok (.putfield 158, 3) := by decide +kernel
theorem dX12_falls_5 : decode cX12_falls 5 = .ok (.aload_n 0, 1) := by decide +kernel
theorem dX12_falls_6 : decode cX12_falls 6 = .ok (.iload_n 1, 1) := by decide +kernel
theorem dX12_falls_7 : decode cX12_falls 7 = .ok (.invokevirtual 371, 3) := by decide +kernel
theorem dX12_falls_10 : decode cX12_falls 10 = .ok (.ifCond .eq 8, 3) := by decide +kernel
theorem dX12_falls_13 : decode cX12_falls 13 = .ok (.iload_n 2, 1) := by decide +kernel
theorem dX12_falls_14 : decode cX12_falls 14 = .ok (.iconst (-1), 1) := by decide +kernel
theorem dX12_falls_15 : decode cX12_falls 15 = .ok (.if_icmp .ge 9, 3) := by decide +kernel
theorem dX12_falls_18 : decode cX12_falls 18 = .ok (.aload_n 0, 1) := by decide +kernel
theorem dX12_falls_19 : decode cX12_falls 19 = .ok (.iconst 1, 1) := by decide +kernel
theorem dX12_falls_20 : decode cX12_falls 20 = .ok (.invokevirtual 263, 3) := by decide +kernel
theorem dX12_falls_23 : decode cX12_falls 23 = .ok (.ireturn, 1) := by decide +kernel
theorem dX12_falls_24 : decode cX12_falls 24 = .ok (.iconst 0, 1) := by decide +kernel
theorem dX12_falls_25 : decode cX12_falls 25 = .ok (.istore_n 3, 1) := by decide +kernel
theorem dX12_falls_26 : decode cX12_falls 26 = .ok (.iconst 0, 1) := by decide +kernel
theorem dX12_falls_27 : decode cX12_falls 27 = .ok (.istore 4, 2) := by decide +kernel
theorem dX12_falls_29 : decode cX12_falls 29 = .ok (.iload 4, 2) := by decide +kernel
theorem dX12_falls_31 : decode cX12_falls 31 = .ok (.aload_n 0, 1) := by decide +kernel
theorem dX12_falls_32 : decode cX12_falls 32 = .ok (.getfield 32, 3) := by decide +kernel
theorem dX12_falls_35 : decode cX12_falls 35 = .ok (.iload_n 1, 1) := by decide +kernel
theorem dX12_falls_36 : decode cX12_falls 36 = .ok (.iaload, 1) := by decide +kernel
theorem dX12_falls_37 : decode cX12_falls 37 = .ok (.if_icmp .ge 33, 3) := by decide +kernel
theorem dX12_falls_40 : decode cX12_falls 40 = .ok (.aload_n 0, 1) := by decide +kernel
theorem dX12_falls_41 : decode cX12_falls 41 = .ok (.iload_n 1, 1) := by decide +kernel
theorem dX12_falls_42 : decode cX12_falls 42 = .ok (.iload 4, 2) := by decide +kernel
theorem dX12_falls_44 : decode cX12_falls 44 = .ok (.invokevirtual 439, 3) := by decide +kernel
theorem dX12_falls_47 : decode cX12_falls 47 = .ok (.ifCond .ne 6, 3) := by decide +kernel
theorem dX12_falls_50 : decode cX12_falls 50 = .ok (.goto 14, 3) := by decide +kernel
theorem dX12_falls_53 : decode cX12_falls 53 = .ok (.iload_n 3, 1) := by decide +kernel
theorem dX12_falls_54 : decode cX12_falls 54 = .ok (.iload_n 2, 1) := by decide +kernel
theorem dX12_falls_55 : decode cX12_falls 55 = .ok (.if_icmp .ne 6, 3) := by decide +kernel
theorem dX12_falls_58 : decode cX12_falls 58 = .ok (.iload 4, 2) := by decide +kernel
theorem dX12_falls_60 : decode cX12_falls 60 = .ok (.ireturn, 1) := by decide +kernel
theorem dX12_falls_61 : decode cX12_falls 61 = .ok (.iinc 3 1, 3) := by decide +kernel
theorem dX12_falls_64 : decode cX12_falls 64 = .ok (.iinc 4 1, 3) := by decide +kernel
theorem dX12_falls_67 : decode cX12_falls 67 = .ok (.goto (-38), 3) := by decide +kernel
theorem dX12_falls_70 : decode cX12_falls 70 = .ok (.iload_n 2, 1) := by decide +kernel
theorem dX12_falls_71 : decode cX12_falls 71 = .ok (.iconst (-1), 1) := by decide +kernel
theorem dX12_falls_72 : decode cX12_falls 72 = .ok (.if_icmp .ne 7, 3) := by decide +kernel
theorem dX12_falls_75 : decode cX12_falls 75 = .ok (.iload_n 3, 1) := by decide +kernel
theorem dX12_falls_76 : decode cX12_falls 76 = .ok (.goto 8, 3) := by decide +kernel
theorem dX12_falls_79 : decode cX12_falls 79 = .ok (.aload_n 0, 1) := by decide +kernel
theorem dX12_falls_80 : decode cX12_falls 80 = .ok (.iconst 1, 1) := by decide +kernel
theorem dX12_falls_81 : decode cX12_falls 81 = .ok (.invokevirtual 263, 3) := by decide +kernel
theorem dX12_falls_84 : decode cX12_falls 84 = .ok (.ireturn, 1) := by decide +kernel
theorem dX12_blank_0 : decode cX12_blank 0 = .ok (.aload_n 0, 1) := by decide +kernel
theorem dX12_blank_1 : decode cX12_blank 1 = .ok (.iconst 0, 1) := by decide +kernel
theorem dX12_blank_2 : decode cX12_blank 2 = .ok (.putfield 158, 3) := by decide +kernel
theorem dX12_blank_5 : decode cX12_blank 5 = .ok (.aload_n 0, 1) := by decide +kernel
theorem dX12_blank_6 : decode cX12_blank 6 = .ok (.getfield 285, 3) := by decide +kernel
theorem dX12_blank_9 : decode cX12_blank 9 = .ok (.bipush 20, 2) := by decide +kernel
theorem dX12_blank_11 : decode cX12_blank 11 = .ok (.if_icmp .eq 25, 3) := by decide +kernel
theorem dX12_blank_14 : decode cX12_blank 14 = .ok (.iload_n 1, 1) := by decide +kernel
theorem dX12_blank_15 : decode cX12_blank 15 = .ok (.iconst 1, 1) := by decide +kernel
theorem dX12_blank_16 : decode cX12_blank 16 = .ok (.sipush 999, 3) := by decide +kernel
theorem dX12_blank_19 : decode cX12_blank 19 = .ok (.invokestatic 161, 3) := by decide +kernel
theorem dX12_blank_22 : decode cX12_blank 22 = .ok (.ifCond .eq 14, 3) := by decide +kernel
theorem dX12_blank_25 : decode cX12_blank 25 = .ok (.iload_n 2, 1) := by decide +kernel
theorem dX12_blank_26 : decode cX12_blank 26 = .ok (.iconst 0, 1) := by decide +kernel
theorem dX12_blank_27 : decode cX12_blank 27 = .ok (.sipush 9999, 3) := by decide +kernel
theorem dX12_blank_30 : decode cX12_blank 30 = .ok (.invokestatic 161, 3) := by decide +kernel
theorem dX12_blank_33 : decode cX12_blank 33 = .ok (.ifCond .ne 15, 3) := by decide +kernel
theorem dX12_blank_36 : decode cX12_blank 36 = .ok (.aload_n 0, 1) := by decide +kernel
theorem dX12_blank_37 : decode cX12_blank 37 = .ok (.getfield 96, 3) := by decide +kernel
theorem dX12_blank_40 : decode cX12_blank 40 = .ok (.iconst 3, 1) := by decide +kernel
theorem dX12_blank_41 : decode cX12_blank 41 = .ok (.dup2, 1) := by decide +kernel
theorem dX12_blank_42 : decode cX12_blank 42 = .ok (.iaload, 1) := by decide +kernel
theorem dX12_blank_43 : decode cX12_blank 43 = .ok (.iconst 1, 1) := by decide +kernel
theorem dX12_blank_44 : decode cX12_blank 44 = .ok (.iadd, 1) := by decide +kernel
theorem dX12_blank_45 : decode cX12_blank 45 = .ok (.iastore, 1) := by decide +kernel
theorem dX12_blank_46 : decode cX12_blank 46 = .ok (.iconst (-1), 1) := by decide +kernel
theorem dX12_blank_47 : decode cX12_blank 47 = .ok (.ireturn, 1) := by decide +kernel
theorem dX12_blank_48 : decode cX12_blank 48 = .ok (.aload_n 0, 1) := by decide +kernel
theorem dX12_blank_49 : decode cX12_blank 49 = .ok (.getfield 140, 3) := by decide +kernel
theorem dX12_blank_52 : decode cX12_blank 52 = .ok (.aload_n 0, 1) := by decide +kernel
theorem dX12_blank_53 : decode cX12_blank 53 = .ok (.getfield 285, 3) := by decide +kernel
theorem dX12_blank_56 : decode cX12_blank 56 = .ok (.iload_n 1, 1) := by decide +kernel
theorem dX12_blank_57 : decode cX12_blank 57 = .ok (.iastore, 1) := by decide +kernel
theorem dX12_blank_58 : decode cX12_blank 58 = .ok (.aload_n 0, 1) := by decide +kernel
theorem dX12_blank_59 : decode cX12_blank 59 = .ok (.getfield 143, 3) := by decide +kernel
theorem dX12_blank_62 : decode cX12_blank 62 = .ok (.aload_n 0, 1) := by decide +kernel
theorem dX12_blank_63 : decode cX12_blank 63 = .ok (.getfield 285, 3) := by decide +kernel
theorem dX12_blank_66 : decode cX12_blank 66 = .ok (.iload_n 2, 1) := by decide +kernel
theorem dX12_blank_67 : decode cX12_blank 67 = .ok (.iastore, 1) := by decide +kernel
theorem dX12_blank_68 : decode cX12_blank 68 = .ok (.aload_n 0, 1) := by decide +kernel
theorem dX12_blank_69 : decode cX12_blank 69 = .ok (.dup, 1) := by decide +kernel
theorem dX12_blank_70 : decode cX12_blank 70 = .ok (.getfield 285, 3) := by decide +kernel
theorem dX12_blank_73 : decode cX12_blank 73 = .ok (.iconst 1, 1) := by decide +kernel
theorem dX12_blank_74 : decode cX12_blank 74 = .ok (.iadd, 1) := by decide +kernel
theorem dX12_blank_75 : decode cX12_blank 75 = .ok (.putfield 285, 3) := by decide +kernel
theorem dX12_blank_78 : decode cX12_blank 78 = .ok (.aload_n 0, 1) := by decide +kernel
theorem dX12_blank_79 : decode cX12_blank 79 = .ok (.getfield 285, 3) := by decide +kernel
theorem dX12_blank_82 : decode cX12_blank 82 = .ok (.ireturn, 1) := by decide +kernel
theorem dX12_clear_0 : decode cX12_clear 0 = .ok (.aload_n 0, 1) := by decide +kernel
theorem dX12_clear_1 : decode cX12_clear 1 = .ok (.iconst 0, 1) := by decide +kernel
theorem dX12_clear_2 : decode cX12_clear 2 = .ok (.putfield 158, 3) := by decide +kernel
theorem dX12_clear_5 : decode cX12_clear 5 = .ok (.aload_n 0, 1) := by decide +kernel
theorem dX12_clear_6 : decode cX12_clear 6 = .ok (.getfield 285, 3) := by decide +kernel
theorem dX12_clear_9 : decode cX12_clear 9 = .ok (.istore_n 1, 1) := by decide +kernel
theorem dX12_clear_10 : decode cX12_clear 10 = .ok (.aload_n 0, 1) := by decide +kernel
theorem dX12_clear_11 : decode cX12_clear 11 = .ok (.iconst 0, 1) := by decide +kernel
theorem dX12_clear_12 : decode cX12_clear 12 = .ok (.putfield 285, 3) := by decide +kernel
theorem dX12_clear_15 : decode cX12_clear 15 = .ok (.iload_n 1, 1) := by decide +kernel
theorem dX12_clear_16 : decode cX12_clear 16 = .ok (.ireturn, 1) := by decide +kernel
theorem dX12_turn_0 : decode cX12_turn 0 = .ok (.aload_n 0, 1) := by decide +kernel
theorem dX12_turn_1 : decode cX12_turn 1 = .ok (.iconst 0, 1) := by decide +kernel
theorem dX12_turn_2 : decode cX12_turn 2 = .ok (.putfield 158, 3) := by decide +kernel
theorem dX12_turn_5 : decode cX12_turn 5 = .ok (.iload_n 1, 1) := by decide +kernel
theorem dX12_turn_6 : decode cX12_turn 6 = .ok (.ifCond .lt 8, 3) := by decide +kernel
theorem dX12_turn_9 : decode cX12_turn 9 = .ok (.iload_n 1, 1) := by decide +kernel
theorem dX12_turn_10 : decode cX12_turn 10 = .ok (.iconst 1, 1) := by decide +kernel
theorem dX12_turn_11 : decode cX12_turn 11 = .ok (.if_icmp .le 9, 3) := by decide +kernel
theorem dX12_turn_14 : decode cX12_turn 14 = .ok (.aload_n 0, 1) := by decide +kernel
theorem dX12_turn_15 : decode cX12_turn 15 = .ok (.iconst 1, 1) := by decide +kernel
theorem dX12_turn_16 : decode cX12_turn 16 = .ok (.invokevirtual 263, 3) := by decide +kernel
theorem dX12_turn_19 : decode cX12_turn 19 = .ok (.ireturn, 1) := by decide +kernel
theorem dX12_turn_20 : decode cX12_turn 20 = .ok (.aload_n 0, 1) := by decide +kernel
theorem dX12_turn_21 : decode cX12_turn 21 = .ok (.getfield 285, 3) := by decide +kernel
theorem dX12_turn_24 : decode cX12_turn 24 = .ok (.ifCond .ne 5, 3) := by decide +kernel
theorem dX12_turn_27 : decode cX12_turn 27 = .ok (.iconst (-1), 1) := by decide +kernel
theorem dX12_turn_28 : decode cX12_turn 28 = .ok (.ireturn, 1) := by decide +kernel
theorem dX12_turn_29 : decode cX12_turn 29 = .ok (.iconst 0, 1) := by decide +kernel
theorem dX12_turn_30 : decode cX12_turn 30 = .ok (.istore_n 2, 1) := by decide +kernel
theorem dX12_turn_31 : decode cX12_turn 31 = .ok (.iconst 1, 1) := by decide +kernel
theorem dX12_turn_32 : decode cX12_turn 32 = .ok (.istore_n 3, 1) := by decide +kernel
theorem dX12_turn_33 : decode cX12_turn 33 = .ok (.iconst 0, 1) := by decide +kernel
theorem dX12_turn_34 : decode cX12_turn 34 = .ok (.istore 4, 2) := by decide +kernel
theorem dX12_turn_36 : decode cX12_turn 36 = .ok (.iconst 0, 1) := by decide +kernel
theorem dX12_turn_37 : decode cX12_turn 37 = .ok (.istore 5, 2) := by decide +kernel
theorem dX12_turn_39 : decode cX12_turn 39 = .ok (.iconst 0, 1) := by decide +kernel
theorem dX12_turn_40 : decode cX12_turn 40 = .ok (.istore 6, 2) := by decide +kernel
theorem dX12_turn_42 : decode cX12_turn 42 = .ok (.iload 6, 2) := by decide +kernel
theorem dX12_turn_44 : decode cX12_turn 44 = .ok (.aload_n 0, 1) := by decide +kernel
theorem dX12_turn_45 : decode cX12_turn 45 = .ok (.getfield 285, 3) := by decide +kernel
theorem dX12_turn_48 : decode cX12_turn 48 = .ok (.if_icmp .ge 93, 3) := by decide +kernel
theorem dX12_turn_51 : decode cX12_turn 51 = .ok (.aload_n 0, 1) := by decide +kernel
theorem dX12_turn_52 : decode cX12_turn 52 = .ok (.getfield 143, 3) := by decide +kernel
theorem dX12_turn_55 : decode cX12_turn 55 = .ok (.iload 6, 2) := by decide +kernel
theorem dX12_turn_57 : decode cX12_turn 57 = .ok (.iaload, 1) := by decide +kernel
theorem dX12_turn_58 : decode cX12_turn 58 = .ok (.aload_n 0, 1) := by decide +kernel
theorem dX12_turn_59 : decode cX12_turn 59 = .ok (.getfield 87, 3) := by decide +kernel
theorem dX12_turn_62 : decode cX12_turn 62 = .ok (.iconst 2, 1) := by decide +kernel
theorem dX12_turn_63 : decode cX12_turn 63 = .ok (.iaload, 1) := by decide +kernel
theorem dX12_turn_64 : decode cX12_turn 64 = .ok (.isub, 1) := by decide +kernel
theorem dX12_turn_65 : decode cX12_turn 65 = .ok (.istore 7, 2) := by decide +kernel
theorem dX12_turn_67 : decode cX12_turn 67 = .ok (.aload_n 0, 1) := by decide +kernel
theorem dX12_turn_68 : decode cX12_turn 68 = .ok (.getfield 143, 3) := by decide +kernel
theorem dX12_turn_71 : decode cX12_turn 71 = .ok (.iload 6, 2) := by decide +kernel
theorem dX12_turn_73 : decode cX12_turn 73 = .ok (.iaload, 1) := by decide +kernel
theorem dX12_turn_74 : decode cX12_turn 74 = .ok (.aload_n 0, 1) := by decide +kernel
theorem dX12_turn_75 : decode cX12_turn 75 = .ok (.getfield 87, 3) := by decide +kernel
theorem dX12_turn_78 : decode cX12_turn 78 = .ok (.iconst 2, 1) := by decide +kernel
theorem dX12_turn_79 : decode cX12_turn 79 = .ok (.iaload, 1) := by decide +kernel
theorem dX12_turn_80 : decode cX12_turn 80 = .ok (.iadd, 1) := by decide +kernel
theorem dX12_turn_81 : decode cX12_turn 81 = .ok (.istore 8, 2) := by decide +kernel
theorem dX12_turn_83 : decode cX12_turn 83 = .ok (.aload_n 0, 1) := by decide +kernel
theorem dX12_turn_84 : decode cX12_turn 84 = .ok (.getfield 140, 3) := by decide +kernel
theorem dX12_turn_87 : decode cX12_turn 87 = .ok (.iload 6, 2) := by decide +kernel
theorem dX12_turn_89 : decode cX12_turn 89 = .ok (.iaload, 1) := by decide +kernel
theorem dX12_turn_90 : decode cX12_turn 90 = .ok (.istore 9, 2) := by decide +kernel
theorem dX12_turn_92 : decode cX12_turn 92 = .ok (.iload 7, 2) := by decide +kernel
theorem dX12_turn_94 : decode cX12_turn 94 = .ok (.iload_n 3, 1) := by decide +kernel
theorem dX12_turn_95 : decode cX12_turn 95 = .ok (.imul, 1) := by decide +kernel
theorem dX12_turn_96 : decode cX12_turn 96 = .ok (.iload_n 2, 1) := by decide +kernel
theorem dX12_turn_97 : decode cX12_turn 97 = .ok (.iload 9, 2) := by decide +kernel
theorem dX12_turn_99 : decode cX12_turn 99 = .ok (.imul, 1) := by decide +kernel
theorem dX12_turn_100 : decode cX12_turn 100 = .ok (.if_icmp .le 9, 3) := by decide +kernel
theorem dX12_turn_103 : decode cX12_turn 103 = .ok (.iload 7, 2) := by decide +kernel
theorem dX12_turn_105 : decode cX12_turn 105 = .ok (.istore_n 2, 1) := by decide +kernel
theorem dX12_turn_106 : decode cX12_turn 106 = .ok (.iload 9, 2) := by decide +kernel
theorem dX12_turn_108 : decode cX12_turn 108 = .ok (.istore_n 3, 1) := by decide +kernel
theorem dX12_turn_109 : decode cX12_turn 109 = .ok (.iload 5, 2) := by decide +kernel
theorem dX12_turn_111 : decode cX12_turn 111 = .ok (.ifCond .eq 16, 3) := by decide +kernel
theorem dX12_turn_114 : decode cX12_turn 114 = .ok (.iload 8, 2) := by decide +kernel
theorem dX12_turn_116 : decode cX12_turn 116 = .ok (.iload 5, 2) := by decide +kernel
theorem dX12_turn_118 : decode cX12_turn 118 = .ok (.imul, 1) := by decide +kernel
theorem dX12_turn_119 : decode cX12_turn 119 = .ok (.iload 4, 2) := by decide +kernel
theorem dX12_turn_121 : decode cX12_turn 121 = .ok (.iload 9, 2) := by decide +kernel
theorem dX12_turn_123 : decode cX12_turn 123 = .ok (.imul, 1) := by decide +kernel
theorem dX12_turn_124 : decode cX12_turn 124 = .ok (.if_icmp .ge 11, 3) := by decide +kernel
theorem dX12_turn_127 : decode cX12_turn 127 = .ok (.iload 8, 2) := by decide +kernel
theorem dX12_turn_129 : decode cX12_turn 129 = .ok (.istore 4, 2) := by decide +kernel
theorem dX12_turn_131 : decode cX12_turn 131 = .ok (.iload 9, 2) := by decide +kernel
theorem dX12_turn_133 : decode cX12_turn 133 = .ok (.istore 5, 2) := by decide +kernel
theorem dX12_turn_135 : decode cX12_turn 135 = .ok (.iinc 6 1, 3) := by decide +kernel
theorem dX12_turn_138 : decode cX12_turn 138 = .ok (.goto (-96), 3) := by decide +kernel
theorem dX12_turn_141 : decode cX12_turn 141 = .ok (.iload_n 2, 1) := by decide +kernel
theorem dX12_turn_142 : decode cX12_turn 142 = .ok (.iload 5, 2) := by decide +kernel
theorem dX12_turn_144 : decode cX12_turn 144 = .ok (.imul, 1) := by decide +kernel
theorem dX12_turn_145 : decode cX12_turn 145 = .ok (.iload 4, 2) := by decide +kernel
theorem dX12_turn_147 : decode cX12_turn 147 = .ok (.iload_n 3, 1) := by decide +kernel
theorem dX12_turn_148 : decode cX12_turn 148 = .ok (.imul, 1) := by decide +kernel
theorem dX12_turn_149 : decode cX12_turn 149 = .ok (.if_icmp .le 5, 3) := by decide +kernel
theorem dX12_turn_152 : decode cX12_turn 152 = .ok (.iconst (-1), 1) := by decide +kernel
theorem dX12_turn_153 : decode cX12_turn 153 = .ok (.ireturn, 1) := by decide +kernel
theorem dX12_turn_154 : decode cX12_turn 154 = .ok (.iload_n 1, 1) := by decide +kernel
theorem dX12_turn_155 : decode cX12_turn 155 = .ok (.ifCond .ne 13, 3) := by decide +kernel
theorem dX12_turn_158 : decode cX12_turn 158 = .ok (.sipush 1000, 3) := by decide +kernel
theorem dX12_turn_161 : decode cX12_turn 161 = .ok (.iload_n 2, 1) := by decide +kernel
theorem dX12_turn_162 : decode cX12_turn 162 = .ok (.imul, 1) := by decide +kernel
theorem dX12_turn_163 : decode cX12_turn 163 = .ok (.iload_n 3, 1) := by decide +kernel
theorem dX12_turn_164 : decode cX12_turn 164 = .ok (.idiv, 1) := by decide +kernel
theorem dX12_turn_165 : decode cX12_turn 165 = .ok (.goto 17, 3) := by decide +kernel
theorem dX12_turn_168 : decode cX12_turn 168 = .ok (.sipush 1000, 3) := by decide +kernel
theorem dX12_turn_171 : decode cX12_turn 171 = .ok (.iload 4, 2) := by decide +kernel
theorem dX12_turn_173 : decode cX12_turn 173 = .ok (.imul, 1) := by decide +kernel
theorem dX12_turn_174 : decode cX12_turn 174 = .ok (.iload 5, 2) := by decide +kernel
theorem dX12_turn_176 : decode cX12_turn 176 = .ok (.iadd, 1) := by decide +kernel
theorem dX12_turn_177 : decode cX12_turn 177 = .ok (.iconst 1, 1) := by decide +kernel
theorem dX12_turn_178 : decode cX12_turn 178 = .ok (.isub, 1) := by decide +kernel
theorem dX12_turn_179 : decode cX12_turn 179 = .ok (.iload 5, 2) := by decide +kernel
theorem dX12_turn_181 : decode cX12_turn 181 = .ok (.idiv, 1) := by decide +kernel
theorem dX12_turn_182 : decode cX12_turn 182 = .ok (.ireturn, 1) := by decide +kernel
theorem dX12_town_0 : decode cX12_town 0 = .ok (.aload_n 0, 1) := by decide +kernel
theorem dX12_town_1 : decode cX12_town 1 = .ok (.iconst 0, 1) := by decide +kernel
theorem dX12_town_2 : decode cX12_town 2 = .ok (.putfield 158, 3) := by decide +kernel
theorem dX12_town_5 : decode cX12_town 5 = .ok (.iload_n 1, 1) := by decide +kernel
theorem dX12_town_6 : decode cX12_town 6 = .ok (.iconst 0, 1) := by decide +kernel
theorem dX12_town_7 : decode cX12_town 7 = .ok (.bipush 11, 2) := by decide +kernel
theorem dX12_town_9 : decode cX12_town 9 = .ok (.invokestatic 161, 3) := by decide +kernel
theorem dX12_town_12 : decode cX12_town 12 = .ok (.ifCond .ne 9, 3) := by decide +kernel
theorem dX12_town_15 : decode cX12_town 15 = .ok (.aload_n 0, 1) := by decide +kernel
theorem dX12_town_16 : decode cX12_town 16 = .ok (.iconst 1, 1) := by decide +kernel
theorem dX12_town_17 : decode cX12_town 17 = .ok (.invokevirtual 263, 3) := by decide +kernel
theorem dX12_town_20 : decode cX12_town 20 = .ok (.ireturn, 1) := by decide +kernel
theorem dX12_town_21 : decode cX12_town 21 = .ok (.iconst 0, 1) := by decide +kernel
theorem dX12_town_22 : decode cX12_town 22 = .ok (.istore_n 2, 1) := by decide +kernel
theorem dX12_town_23 : decode cX12_town 23 = .ok (.iconst 0, 1) := by decide +kernel
theorem dX12_town_24 : decode cX12_town 24 = .ok (.istore_n 3, 1) := by decide +kernel
theorem dX12_town_25 : decode cX12_town 25 = .ok (.iload_n 3, 1) := by decide +kernel
theorem dX12_town_26 : decode cX12_town 26 = .ok (.bipush 6, 2) := by decide +kernel
theorem dX12_town_28 : decode cX12_town 28 = .ok (.if_icmp .ge 39, 3) := by decide +kernel
theorem dX12_town_31 : decode cX12_town 31 = .ok (.iload_n 2, 1) := by decide +kernel
theorem dX12_town_32 : decode cX12_town 32 = .ok (.aload_n 0, 1) := by decide +kernel
theorem dX12_town_33 : decode cX12_town 33 = .ok (.iload_n 3, 1) := by decide +kernel
theorem dX12_town_34 : decode cX12_town 34 = .ok (.invokevirtual 288, 3) := by decide +kernel
theorem dX12_town_37 : decode cX12_town 37 = .ok (.ifCond .eq 21, 3) := by decide +kernel
theorem dX12_town_40 : decode cX12_town 40 = .ok (.aload_n 0, 1) := by decide +kernel
theorem dX12_town_41 : decode cX12_town 41 = .ok (.iload_n 3, 1) := by decide +kernel
theorem dX12_town_42 : decode cX12_town 42 = .ok (.iload_n 1, 1) := by decide +kernel
theorem dX12_town_43 : decode cX12_town 43 = .ok (.invokevirtual 374, 3) := by decide +kernel
theorem dX12_town_46 : decode cX12_town 46 = .ok (.ifCond .eq 12, 3) := by decide +kernel
theorem dX12_town_49 : decode cX12_town 49 = .ok (.aload_n 0, 1) := by decide +kernel
theorem dX12_town_50 : decode cX12_town 50 = .ok (.iload_n 3, 1) := by decide +kernel
theorem dX12_town_51 : decode cX12_town 51 = .ok (.iload_n 1, 1) := by decide +kernel
theorem dX12_town_52 : decode cX12_town 52 = .ok (.invokevirtual 377, 3) := by decide +kernel
theorem dX12_town_55 : decode cX12_town 55 = .ok (.goto 4, 3) := by decide +kernel
theorem dX12_town_58 : decode cX12_town 58 = .ok (.iconst 0, 1) := by decide +kernel
theorem dX12_town_59 : decode cX12_town 59 = .ok (.iadd, 1) := by decide +kernel
theorem dX12_town_60 : decode cX12_town 60 = .ok (.istore_n 2, 1) := by decide +kernel
theorem dX12_town_61 : decode cX12_town 61 = .ok (.iinc 3 1, 3) := by decide +kernel
theorem dX12_town_64 : decode cX12_town 64 = .ok (.goto (-39), 3) := by decide +kernel
theorem dX12_town_67 : decode cX12_town 67 = .ok (.iload_n 2, 1) := by decide +kernel
theorem dX12_town_68 : decode cX12_town 68 = .ok (.ireturn, 1) := by decide +kernel
theorem dX12_signOf_0 : decode cX12_signOf 0 = .ok (.iload_n 0, 1) := by decide +kernel
theorem dX12_signOf_1 : decode cX12_signOf 1 = .ok (.ifCond .le 7, 3) := by decide +kernel
theorem dX12_signOf_4 : decode cX12_signOf 4 = .ok (.iconst 1, 1) := by decide +kernel
theorem dX12_signOf_5 : decode cX12_signOf 5 = .ok (.goto 12, 3) := by decide +kernel
theorem dX12_signOf_8 : decode cX12_signOf 8 = .ok (.iload_n 0, 1) := by decide +kernel
theorem dX12_signOf_9 : decode cX12_signOf 9 = .ok (.ifCond .ge 7, 3) := by decide +kernel
theorem dX12_signOf_12 : decode cX12_signOf 12 = .ok (.iconst (-1), 1) := by decide +kernel
theorem dX12_signOf_13 : decode cX12_signOf 13 = .ok (.goto 4, 3) := by decide +kernel
theorem dX12_signOf_16 : decode cX12_signOf 16 = .ok (.iconst 0, 1) := by decide +kernel
theorem dX12_signOf_17 : decode cX12_signOf 17 = .ok (.ireturn, 1) := by decide +kernel
theorem dX12_alikeOf_0 : decode cX12_alikeOf 0 = .ok (.iconst 0, 1) := by decide +kernel
theorem dX12_alikeOf_1 : decode cX12_alikeOf 1 = .ok (.istore_n 3, 1) := by decide +kernel
theorem dX12_alikeOf_2 : decode cX12_alikeOf 2 = .ok (.iconst 0, 1) := by decide +kernel
theorem dX12_alikeOf_3 : decode cX12_alikeOf 3 = .ok (.istore 4, 2) := by decide +kernel
theorem dX12_alikeOf_5 : decode cX12_alikeOf 5 = .ok (.iload 4, 2) := by decide +kernel
theorem dX12_alikeOf_7 : decode cX12_alikeOf 7 = .ok (.bipush 12, 2) := by decide +kernel
theorem dX12_alikeOf_9 : decode cX12_alikeOf 9 = .ok (.if_icmp .ge 117, 3) := by decide +kernel
theorem dX12_alikeOf_12 : decode cX12_alikeOf 12 = .ok (.iconst 0, 1) := by decide +kernel
theorem dX12_alikeOf_13 : decode cX12_alikeOf 13 = .ok (.istore 5, 2) := by decide +kernel
theorem dX12_alikeOf_15 : decode cX12_alikeOf 15 = .ok (.iload 5, 2) := by decide +kernel
theorem dX12_alikeOf_17 : decode cX12_alikeOf 17 = .ok (.iload 4, 2) := by decide +kernel
theorem dX12_alikeOf_19 : decode cX12_alikeOf 19 = .ok (.if_icmp .ge 101, 3) := by decide +kernel
theorem dX12_alikeOf_22 : decode cX12_alikeOf 22 = .ok (.aload_n 0, 1) := by decide +kernel
theorem dX12_alikeOf_23 : decode cX12_alikeOf 23 = .ok (.iload_n 1, 1) := by decide +kernel
theorem dX12_alikeOf_24 : decode cX12_alikeOf 24 = .ok (.iload 4, 2) := by decide +kernel
theorem dX12_alikeOf_26 : decode cX12_alikeOf 26 = .ok (.invokevirtual 374, 3) := by decide +kernel
theorem dX12_alikeOf_29 : decode cX12_alikeOf 29 = .ok (.ifCond .eq 37, 3) := by decide +kernel
theorem dX12_alikeOf_32 : decode cX12_alikeOf 32 = .ok (.aload_n 0, 1) := by decide +kernel
theorem dX12_alikeOf_33 : decode cX12_alikeOf 33 = .ok (.iload_n 1, 1) := by decide +kernel
theorem dX12_alikeOf_34 : decode cX12_alikeOf 34 = .ok (.iload 5, 2) := by decide +kernel
theorem dX12_alikeOf_36 : decode cX12_alikeOf 36 = .ok (.invokevirtual 374, 3) := by decide +kernel
theorem dX12_alikeOf_39 : decode cX12_alikeOf 39 = .ok (.ifCond .eq 27, 3) := by decide +kernel
theorem dX12_alikeOf_42 : decode cX12_alikeOf 42 = .ok (.aload_n 0, 1) := by decide +kernel
theorem dX12_alikeOf_43 : decode cX12_alikeOf 43 = .ok (.iload_n 2, 1) := by decide +kernel
theorem dX12_alikeOf_44 : decode cX12_alikeOf 44 = .ok (.iload 4, 2) := by decide +kernel
theorem dX12_alikeOf_46 : decode cX12_alikeOf 46 = .ok (.invokevirtual 374, 3) := by decide +kernel
theorem dX12_alikeOf_49 : decode cX12_alikeOf 49 = .ok (.ifCond .eq 17, 3) := by decide +kernel
theorem dX12_alikeOf_52 : decode cX12_alikeOf 52 = .ok (.aload_n 0, 1) := by decide +kernel
theorem dX12_alikeOf_53 : decode cX12_alikeOf 53 = .ok (.iload_n 2, 1) := by decide +kernel
theorem dX12_alikeOf_54 : decode cX12_alikeOf 54 = .ok (.iload 5, 2) := by decide +kernel
theorem dX12_alikeOf_56 : decode cX12_alikeOf 56 = .ok (.invokevirtual 374, 3) := by decide +kernel
theorem dX12_alikeOf_59 : decode cX12_alikeOf 59 = .ok (.ifCond .eq 7, 3) := by decide +kernel
theorem dX12_alikeOf_62 : decode cX12_alikeOf 62 = .ok (.iconst 1, 1) := by decide +kernel
theorem dX12_alikeOf_63 : decode cX12_alikeOf 63 = .ok (.goto 4, 3) := by decide +kernel
theorem dX12_alikeOf_66 : decode cX12_alikeOf 66 = .ok (.iconst 0, 1) := by decide +kernel
theorem dX12_alikeOf_67 : decode cX12_alikeOf 67 = .ok (.istore 6, 2) := by decide +kernel
theorem dX12_alikeOf_69 : decode cX12_alikeOf 69 = .ok (.iload 6, 2) := by decide +kernel
theorem dX12_alikeOf_71 : decode cX12_alikeOf 71 = .ok (.ifCond .eq 43, 3) := by decide +kernel
theorem dX12_alikeOf_74 : decode cX12_alikeOf 74 = .ok (.iload_n 3, 1) := by decide +kernel
theorem dX12_alikeOf_75 : decode cX12_alikeOf 75 = .ok (.aload_n 0, 1) := by decide +kernel
theorem dX12_alikeOf_76 : decode cX12_alikeOf 76 = .ok (.iload_n 1, 1) := by decide +kernel
theorem dX12_alikeOf_77 : decode cX12_alikeOf 77 = .ok (.iload 4, 2) := by decide +kernel
theorem dX12_alikeOf_79 : decode cX12_alikeOf 79 = .ok (.invokevirtual 377, 3) := by decide +kernel
theorem dX12_alikeOf_82 : decode cX12_alikeOf 82 = .ok (.aload_n 0, 1) := by decide +kernel
theorem dX12_alikeOf_83 : decode cX12_alikeOf 83 = .ok (.iload_n 1, 1) := by decide +kernel
theorem dX12_alikeOf_84 : decode cX12_alikeOf 84 = .ok (.iload 5, 2) := by decide +kernel
theorem dX12_alikeOf_86 : decode cX12_alikeOf 86 = .ok (.invokevirtual 377, 3) := by decide +kernel
theorem dX12_alikeOf_89 : decode cX12_alikeOf 89 = .ok (.isub, 1) := by decide +kernel
theorem dX12_alikeOf_90 : decode cX12_alikeOf 90 = .ok (.invokestatic 442, 3) := by decide +kernel
theorem dX12_alikeOf_93 : decode cX12_alikeOf 93 = .ok (.aload_n 0, 1) := by decide +kernel
theorem dX12_alikeOf_94 : decode cX12_alikeOf 94 = .ok (.iload_n 2, 1) := by decide +kernel
theorem dX12_alikeOf_95 : decode cX12_alikeOf 95 = .ok (.iload 4, 2) := by decide +kernel
theorem dX12_alikeOf_97 : decode cX12_alikeOf 97 = .ok (.invokevirtual 377, 3) := by decide +kernel
theorem dX12_alikeOf_100 : decode cX12_alikeOf 100 = .ok (.aload_n 0, 1) := by decide +kernel
theorem dX12_alikeOf_101 : decode cX12_alikeOf 101 = .ok (.iload_n 2, 1) := by decide +kernel
theorem dX12_alikeOf_102 : decode cX12_alikeOf 102 = .ok (.iload 5, 2) := by decide +kernel
theorem dX12_alikeOf_104 : decode cX12_alikeOf 104 = .ok (.invokevirtual 377, 3) := by decide +kernel
theorem dX12_alikeOf_107 : decode cX12_alikeOf 107 = .ok (.isub, 1) := by decide +kernel
theorem dX12_alikeOf_108 : decode cX12_alikeOf 108 = .ok (.invokestatic 442, 3) := by decide +kernel
theorem dX12_alikeOf_111 : decode cX12_alikeOf 111 = .ok (.imul, 1) := by decide +kernel
theorem dX12_alikeOf_112 : decode cX12_alikeOf 112 = .ok (.iadd, 1) := by decide +kernel
theorem dX12_alikeOf_113 : decode cX12_alikeOf 113 = .ok (.istore_n 3, 1) := by decide +kernel
theorem dX12_alikeOf_114 : decode cX12_alikeOf 114 = .ok (.iinc 5 1, 3) := by decide +kernel
theorem dX12_alikeOf_117 : decode cX12_alikeOf 117 = .ok (.goto (-102), 3) := by decide +kernel
theorem dX12_alikeOf_120 : decode cX12_alikeOf 120 = .ok (.iinc 4 1, 3) := by decide +kernel
theorem dX12_alikeOf_123 : decode cX12_alikeOf 123 = .ok (.goto (-118), 3) := by decide +kernel
theorem dX12_alikeOf_126 : decode cX12_alikeOf 126 = .ok (.iload_n 3, 1) := by decide +kernel
theorem dX12_alikeOf_127 : decode cX12_alikeOf 127 = .ok (.ireturn, 1) := by decide +kernel
theorem dX12_alike_0 : decode cX12_alike 0 = .ok (.aload_n 0, 1) := by decide +kernel
theorem dX12_alike_1 : decode cX12_alike 1 = .ok (.iconst 0, 1) := by decide +kernel
theorem dX12_alike_2 : decode cX12_alike 2 = .ok (.putfield 158, 3) := by decide +kernel
theorem dX12_alike_5 : decode cX12_alike 5 = .ok (.aload_n 0, 1) := by decide +kernel
theorem dX12_alike_6 : decode cX12_alike 6 = .ok (.iload_n 1, 1) := by decide +kernel
theorem dX12_alike_7 : decode cX12_alike 7 = .ok (.invokevirtual 371, 3) := by decide +kernel
theorem dX12_alike_10 : decode cX12_alike 10 = .ok (.ifCond .eq 20, 3) := by decide +kernel
theorem dX12_alike_13 : decode cX12_alike 13 = .ok (.aload_n 0, 1) := by decide +kernel
theorem dX12_alike_14 : decode cX12_alike 14 = .ok (.iload_n 2, 1) := by decide +kernel
theorem dX12_alike_15 : decode cX12_alike 15 = .ok (.invokevirtual 371, 3) := by decide +kernel
theorem dX12_alike_18 : decode cX12_alike 18 = .ok (.ifCond .eq 12, 3) := by decide +kernel
theorem dX12_alike_21 : decode cX12_alike 21 = .ok (.aload_n 0, 1) := by decide +kernel
theorem dX12_alike_22 : decode cX12_alike 22 = .ok (.iload_n 1, 1) := by decide +kernel
theorem dX12_alike_23 : decode cX12_alike 23 = .ok (.iload_n 2, 1) := by decide +kernel
theorem dX12_alike_24 : decode cX12_alike 24 = .ok (.invokevirtual 445, 3) := by decide +kernel
theorem dX12_alike_27 : decode cX12_alike 27 = .ok (.goto 8, 3) := by decide +kernel
theorem dX12_alike_30 : decode cX12_alike 30 = .ok (.aload_n 0, 1) := by decide +kernel
theorem dX12_alike_31 : decode cX12_alike 31 = .ok (.iconst 1, 1) := by decide +kernel
theorem dX12_alike_32 : decode cX12_alike 32 = .ok (.invokevirtual 263, 3) := by decide +kernel
theorem dX12_alike_35 : decode cX12_alike 35 = .ok (.ireturn, 1) := by decide +kernel
theorem dX12_nearest_0 : decode cX12_nearest 0 = .ok (.aload_n 0, 1) := by decide +kernel
theorem dX12_nearest_1 : decode cX12_nearest 1 = .ok (.iconst 0, 1) := by decide +kernel
theorem dX12_nearest_2 : decode cX12_nearest 2 = .ok (.putfield 158, 3) := by decide +kernel
theorem dX12_nearest_5 : decode cX12_nearest 5 = .ok (.aload_n 0, 1) := by decide +kernel
theorem dX12_nearest_6 : decode cX12_nearest 6 = .ok (.iload_n 1, 1) := by decide +kernel
theorem dX12_nearest_7 : decode cX12_nearest 7 = .ok (.invokevirtual 371, 3) := by decide +kernel
theorem dX12_nearest_10 : decode cX12_nearest 10 = .ok (.ifCond .ne 9, 3) := by decide +kernel
theorem dX12_nearest_13 : decode cX12_nearest 13 = .ok (.aload_n 0, 1) := by decide +kernel
theorem dX12_nearest_14 : decode cX12_nearest 14 = .ok (.iconst 1, 1) := by decide +kernel
theorem dX12_nearest_15 : decode cX12_nearest 15 = .ok (.invokevirtual 263, 3) := by decide +kernel
theorem dX12_nearest_18 : decode cX12_nearest 18 = .ok (.ireturn, 1) := by decide +kernel
theorem dX12_nearest_19 : decode cX12_nearest 19 = .ok (.iconst (-1), 1) := by decide +kernel
theorem dX12_nearest_20 : decode cX12_nearest 20 = .ok (.istore_n 2, 1) := by decide +kernel
theorem dX12_nearest_21 : decode cX12_nearest 21 = .ok (.iconst 0, 1) := by decide +kernel
theorem dX12_nearest_22 : decode cX12_nearest 22 = .ok (.istore_n 3, 1) := by decide +kernel
theorem dX12_nearest_23 : decode cX12_nearest 23 = .ok (.iconst 0, 1) := by decide +kernel
theorem dX12_nearest_24 : decode cX12_nearest 24 = .ok (.istore 4, 2) := by decide +kernel
theorem dX12_nearest_26 : decode cX12_nearest 26 = .ok (.iload 4, 2) := by decide +kernel
theorem dX12_nearest_28 : decode cX12_nearest 28 = .ok (.bipush 6, 2) := by decide +kernel
theorem dX12_nearest_30 : decode cX12_nearest 30 = .ok (.if_icmp .ge 56, 3) := by decide +kernel
theorem dX12_nearest_33 : decode cX12_nearest 33 = .ok (.iload 4, 2) := by decide +kernel
theorem dX12_nearest_35 : decode cX12_nearest 35 = .ok (.iload_n 1, 1) := by decide +kernel
theorem dX12_nearest_36 : decode cX12_nearest 36 = .ok (.if_icmp .eq 44, 3) := by decide +kernel
theorem dX12_nearest_39 : decode cX12_nearest 39 = .ok (.aload_n 0, 1) := by decide +kernel
theorem dX12_nearest_40 : decode cX12_nearest 40 = .ok (.iload 4, 2) := by decide +kernel
theorem dX12_nearest_42 : decode cX12_nearest 42 = .ok (.invokevirtual 288, 3) := by decide +kernel
theorem dX12_nearest_45 : decode cX12_nearest 45 = .ok (.ifCond .ne 6, 3) := by decide +kernel
theorem dX12_nearest_48 : decode cX12_nearest 48 = .ok (.goto 32, 3) := by decide +kernel
theorem dX12_nearest_51 : decode cX12_nearest 51 = .ok (.aload_n 0, 1) := by decide +kernel
theorem dX12_nearest_52 : decode cX12_nearest 52 = .ok (.iload_n 1, 1) := by decide +kernel
theorem dX12_nearest_53 : decode cX12_nearest 53 = .ok (.iload 4, 2) := by decide +kernel
theorem dX12_nearest_55 : decode cX12_nearest 55 = .ok (.invokevirtual 445, 3) := by decide +kernel
theorem dX12_nearest_58 : decode cX12_nearest 58 = .ok (.istore 5, 2) := by decide +kernel
theorem dX12_nearest_60 : decode cX12_nearest 60 = .ok (.iload_n 2, 1) := by decide +kernel
theorem dX12_nearest_61 : decode cX12_nearest 61 = .ok (.iconst (-1), 1) := by decide +kernel
theorem dX12_nearest_62 : decode cX12_nearest 62 = .ok (.if_icmp .eq 12, 3) := by decide +kernel
theorem dX12_nearest_65 : decode cX12_nearest 65 = .ok (.iload 5, 2) := by decide +kernel
theorem dX12_nearest_67 : decode cX12_nearest 67 = .ok (.iload_n 3, 1) := by decide +kernel
theorem dX12_nearest_68 : decode cX12_nearest 68 = .ok (.if_icmp .gt 6, 3) := by decide +kernel
theorem dX12_nearest_71 : decode cX12_nearest 71 = .ok (.goto 9, 3) := by decide +kernel
theorem dX12_nearest_74 : decode cX12_nearest 74 = .ok (.iload 4, 2) := by decide +kernel
theorem dX12_nearest_76 : decode cX12_nearest 76 = .ok (.istore_n 2, 1) := by decide +kernel
theorem dX12_nearest_77 : decode cX12_nearest 77 = .ok (.iload 5, 2) := by decide +kernel
theorem dX12_nearest_79 : decode cX12_nearest 79 = .ok (.istore_n 3, 1) := by decide +kernel
theorem dX12_nearest_80 : decode cX12_nearest 80 = .ok (.iinc 4 1, 3) := by decide +kernel
theorem dX12_nearest_83 : decode cX12_nearest 83 = .ok (.goto (-57), 3) := by decide +kernel
theorem dX12_nearest_86 : decode cX12_nearest 86 = .ok (.iload_n 2, 1) := by decide +kernel
theorem dX12_nearest_87 : decode cX12_nearest 87 = .ok (.ireturn, 1) := by decide +kernel
theorem dX12_turnsOf_0 : decode cX12_turnsOf 0 = .ok (.lconst 0, 1) := by decide +kernel
theorem dX12_turnsOf_1 : decode cX12_turnsOf 1 = .ok (.lstore 4, 2) := by decide +kernel
theorem dX12_turnsOf_3 : decode cX12_turnsOf 3 = .ok (.iconst 0, 1) := by decide +kernel
theorem dX12_turnsOf_4 : decode cX12_turnsOf 4 = .ok (.istore 6, 2) := by decide +kernel
theorem dX12_turnsOf_6 : decode cX12_turnsOf 6 = .ok (.iload 6, 2) := by decide +kernel
theorem dX12_turnsOf_8 : decode cX12_turnsOf 8 = .ok (.aload_n 0, 1) := by decide +kernel
theorem dX12_turnsOf_9 : decode cX12_turnsOf 9 = .ok (.getfield 32, 3) := by decide +kernel
theorem dX12_turnsOf_12 : decode cX12_turnsOf 12 = .ok (.iload_n 1, 1) := by decide +kernel
theorem dX12_turnsOf_13 : decode cX12_turnsOf 13 = .ok (.iaload, 1) := by decide +kernel
theorem dX12_turnsOf_14 : decode cX12_turnsOf 14 = .ok (.if_icmp .ge 62, 3) := by decide +kernel
theorem dX12_turnsOf_17 : decode cX12_turnsOf 17 = .ok (.aload_n 0, 1) := by decide +kernel
theorem dX12_turnsOf_18 : decode cX12_turnsOf 18 = .ok (.getfield 50, 3) := by decide +kernel
theorem dX12_turnsOf_21 : decode cX12_turnsOf 21 = .ok (.iload_n 1, 1) := by decide +kernel
theorem dX12_turnsOf_22 : decode cX12_turnsOf 22 = .ok (.iload 6, 2) := by decide +kernel
theorem dX12_turnsOf_24 : decode cX12_turnsOf 24 = .ok (.invokestatic 244, 3) := by decide +kernel
theorem dX12_turnsOf_27 : decode cX12_turnsOf 27 = .ok (.iaload, 1) := by decide +kernel
theorem dX12_turnsOf_28 : decode cX12_turnsOf 28 = .ok (.iload_n 2, 1) := by decide +kernel
theorem dX12_turnsOf_29 : decode cX12_turnsOf 29 = .ok (.if_icmp .ne 41, 3) := by decide +kernel
theorem dX12_turnsOf_32 : decode cX12_turnsOf 32 = .ok (.aload_n 0, 1) := by decide +kernel
theorem dX12_turnsOf_33 : decode cX12_turnsOf 33 = .ok (.iload_n 1, 1) := by decide +kernel
theorem dX12_turnsOf_34 : decode cX12_turnsOf 34 = .ok (.iload 6, 2) := by decide +kernel
theorem dX12_turnsOf_36 : decode cX12_turnsOf 36 = .ok (.invokevirtual 357, 3) := by decide +kernel
theorem dX12_turnsOf_39 : decode cX12_turnsOf 39 = .ok (.ifCond .ne 31, 3) := by decide +kernel
theorem dX12_turnsOf_42 : decode cX12_turnsOf 42 = .ok (.lload 4, 2) := by decide +kernel
theorem dX12_turnsOf_44 : decode cX12_turnsOf 44 = .ok (.iload_n 3, 1) := by decide +kernel
theorem dX12_turnsOf_45 : decode cX12_turnsOf 45 = .ok (.ifCond .eq 14, 3) := by decide +kernel
theorem dX12_turnsOf_48 : decode cX12_turnsOf 48 = .ok (.aload_n 0, 1) := by decide +kernel
theorem dX12_turnsOf_49 : decode cX12_turnsOf 49 = .ok (.iload_n 1, 1) := by decide +kernel
theorem dX12_turnsOf_50 : decode cX12_turnsOf 50 = .ok (.iload 6, 2) := by decide +kernel
theorem dX12_turnsOf_52 : decode cX12_turnsOf 52 = .ok (.invokevirtual 354, 3) := by decide +kernel
theorem dX12_turnsOf_55 : decode cX12_turnsOf 55 = .ok (.i2l, 1) := by decide +kernel
theorem dX12_turnsOf_56 : decode cX12_turnsOf 56 = .ok (.goto 11, 3) := by decide +kernel
theorem dX12_turnsOf_59 : decode cX12_turnsOf 59 = .ok (.aload_n 0, 1) := by decide +kernel
theorem dX12_turnsOf_60 : decode cX12_turnsOf 60 = .ok (.iload_n 1, 1) := by decide +kernel
theorem dX12_turnsOf_61 : decode cX12_turnsOf 61 = .ok (.iload 6, 2) := by decide +kernel
theorem dX12_turnsOf_63 : decode cX12_turnsOf 63 = .ok (.invokevirtual 351, 3) := by decide +kernel
theorem dX12_turnsOf_66 : decode cX12_turnsOf 66 = .ok (.i2l, 1) := by decide +kernel
theorem dX12_turnsOf_67 : decode cX12_turnsOf 67 = .ok (.ladd, 1) := by decide +kernel
theorem dX12_turnsOf_68 : decode cX12_turnsOf 68 = .ok (.lstore 4, 2) := by decide +kernel
theorem dX12_turnsOf_70 : decode cX12_turnsOf 70 = .ok (.iinc 6 1, 3) := by decide +kernel
theorem dX12_turnsOf_73 : decode cX12_turnsOf 73 = .ok (.goto (-67), 3) := by decide +kernel
theorem dX12_turnsOf_76 : decode cX12_turnsOf 76 = .ok (.lload 4, 2) := by decide +kernel
theorem dX12_turnsOf_78 : decode cX12_turnsOf 78 = .ok (.lreturn, 1) := by decide +kernel
theorem dX12_isSurely_0 : decode cX12_isSurely 0 = .ok (.aload_n 0, 1) := by decide +kernel
theorem dX12_isSurely_1 : decode cX12_isSurely 1 = .ok (.iload_n 1, 1) := by decide +kernel
theorem dX12_isSurely_2 : decode cX12_isSurely 2 = .ok (.iload_n 2, 1) := by decide +kernel
theorem dX12_isSurely_3 : decode cX12_isSurely 3 = .ok (.iconst 0, 1) := by decide +kernel
theorem dX12_isSurely_4 : decode cX12_isSurely 4 = .ok (.invokevirtual 448, 3) := by decide +kernel
theorem dX12_isSurely_7 : decode cX12_isSurely 7 = .ok (.aload_n 0, 1) := by decide +kernel
theorem dX12_isSurely_8 : decode cX12_isSurely 8 = .ok (.iload_n 1, 1) := by decide +kernel
theorem dX12_isSurely_9 : decode cX12_isSurely 9 = .ok (.iload_n 3, 1) := by decide +kernel
theorem dX12_isSurely_10 : decode cX12_isSurely 10 = .ok (.invokevirtual 368, 3) := by decide +kernel
theorem dX12_isSurely_13 : decode cX12_isSurely 13 = .ok (.i2l, 1) := by decide +kernel
theorem dX12_isSurely_14 : decode cX12_isSurely 14 = .ok (.lmul, 1) := by decide +kernel
theorem dX12_isSurely_15 : decode cX12_isSurely 15 = .ok (.aload_n 0, 1) := by decide +kernel
theorem dX12_isSurely_16 : decode cX12_isSurely 16 = .ok (.iload_n 1, 1) := by decide +kernel
theorem dX12_isSurely_17 : decode cX12_isSurely 17 = .ok (.iload_n 3, 1) := by decide +kernel
theorem dX12_isSurely_18 : decode cX12_isSurely 18 = .ok (.iconst 1, 1) := by decide +kernel
theorem dX12_isSurely_19 : decode cX12_isSurely 19 = .ok (.invokevirtual 448, 3) := by decide +kernel
theorem dX12_isSurely_22 : decode cX12_isSurely 22 = .ok (.aload_n 0, 1) := by decide +kernel
theorem dX12_isSurely_23 : decode cX12_isSurely 23 = .ok (.iload_n 1, 1) := by decide +kernel
theorem dX12_isSurely_24 : decode cX12_isSurely 24 = .ok (.iload_n 2, 1) := by decide +kernel
theorem dX12_isSurely_25 : decode cX12_isSurely 25 = .ok (.invokevirtual 368, 3) := by decide +kernel
theorem dX12_isSurely_28 : decode cX12_isSurely 28 = .ok (.i2l, 1) := by decide +kernel
theorem dX12_isSurely_29 : decode cX12_isSurely 29 = .ok (.lmul, 1) := by decide +kernel
theorem dX12_isSurely_30 : decode cX12_isSurely 30 = .ok (.lcmp, 1) := by decide +kernel
theorem dX12_isSurely_31 : decode cX12_isSurely 31 = .ok (.ifCond .le 7, 3) := by decide +kernel
theorem dX12_isSurely_34 : decode cX12_isSurely 34 = .ok (.iconst 1, 1) := by decide +kernel
theorem dX12_isSurely_35 : decode cX12_isSurely 35 = .ok (.goto 4, 3) := by decide +kernel
theorem dX12_isSurely_38 : decode cX12_isSurely 38 = .ok (.iconst 0, 1) := by decide +kernel
theorem dX12_isSurely_39 : decode cX12_isSurely 39 = .ok (.ireturn, 1) := by decide +kernel
theorem dX12_sure_0 : decode cX12_sure 0 = .ok (.aload_n 0, 1) := by decide +kernel
theorem dX12_sure_1 : decode cX12_sure 1 = .ok (.iconst 0, 1) := by decide +kernel
theorem dX12_sure_2 : decode cX12_sure 2 = .ok (.putfield 158, 3) := by decide +kernel
theorem dX12_sure_5 : decode cX12_sure 5 = .ok (.aload_n 0, 1) := by decide +kernel
theorem dX12_sure_6 : decode cX12_sure 6 = .ok (.iload_n 1, 1) := by decide +kernel
theorem dX12_sure_7 : decode cX12_sure 7 = .ok (.invokevirtual 371, 3) := by decide +kernel
theorem dX12_sure_10 : decode cX12_sure 10 = .ok (.ifCond .eq 21, 3) := by decide +kernel
theorem dX12_sure_13 : decode cX12_sure 13 = .ok (.aload_n 0, 1) := by decide +kernel
theorem dX12_sure_14 : decode cX12_sure 14 = .ok (.iload_n 1, 1) := by decide +kernel
theorem dX12_sure_15 : decode cX12_sure 15 = .ok (.iload_n 2, 1) := by decide +kernel
theorem dX12_sure_16 : decode cX12_sure 16 = .ok (.invokevirtual 374, 3) := by decide +kernel
theorem dX12_sure_19 : decode cX12_sure 19 = .ok (.ifCond .eq 12, 3) := by decide +kernel
theorem dX12_sure_22 : decode cX12_sure 22 = .ok (.aload_n 0, 1) := by decide +kernel
theorem dX12_sure_23 : decode cX12_sure 23 = .ok (.iload_n 1, 1) := by decide +kernel
theorem dX12_sure_24 : decode cX12_sure 24 = .ok (.iload_n 3, 1) := by decide +kernel
theorem dX12_sure_25 : decode cX12_sure 25 = .ok (.invokevirtual 374, 3) := by decide +kernel
theorem dX12_sure_28 : decode cX12_sure 28 = .ok (.ifCond .ne 9, 3) := by decide +kernel
theorem dX12_sure_31 : decode cX12_sure 31 = .ok (.aload_n 0, 1) := by decide +kernel
theorem dX12_sure_32 : decode cX12_sure 32 = .ok (.iconst 1, 1) := by decide +kernel
theorem dX12_sure_33 : decode cX12_sure 33 = .ok (.invokevirtual 263, 3) := by decide +kernel
theorem dX12_sure_36 : decode cX12_sure 36 = .ok (.ireturn, 1) := by decide +kernel
theorem dX12_sure_37 : decode cX12_sure 37 = .ok (.aload_n 0, 1) := by decide +kernel
theorem dX12_sure_38 : decode cX12_sure 38 = .ok (.iload_n 1, 1) := by decide +kernel
theorem dX12_sure_39 : decode cX12_sure 39 = .ok (.iload_n 2, 1) := by decide +kernel
theorem dX12_sure_40 : decode cX12_sure 40 = .ok (.iload_n 3, 1) := by decide +kernel
theorem dX12_sure_41 : decode cX12_sure 41 = .ok (.invokevirtual 452, 3) := by decide +kernel
theorem dX12_sure_44 : decode cX12_sure 44 = .ok (.ifCond .eq 7, 3) := by decide +kernel
theorem dX12_sure_47 : decode cX12_sure 47 = .ok (.iconst 1, 1) := by decide +kernel
theorem dX12_sure_48 : decode cX12_sure 48 = .ok (.goto 18, 3) := by decide +kernel
theorem dX12_sure_51 : decode cX12_sure 51 = .ok (.aload_n 0, 1) := by decide +kernel
theorem dX12_sure_52 : decode cX12_sure 52 = .ok (.iload_n 1, 1) := by decide +kernel
theorem dX12_sure_53 : decode cX12_sure 53 = .ok (.iload_n 3, 1) := by decide +kernel
theorem dX12_sure_54 : decode cX12_sure 54 = .ok (.iload_n 2, 1) := by decide +kernel
theorem dX12_sure_55 : decode cX12_sure 55 = .ok (.invokevirtual 452, 3) := by decide +kernel
theorem dX12_sure_58 : decode cX12_sure 58 = .ok (.ifCond .eq 7, 3) := by decide +kernel
theorem dX12_sure_61 : decode cX12_sure 61 = .ok (.iconst (-1), 1) := by decide +kernel
theorem dX12_sure_62 : decode cX12_sure 62 = .ok (.goto 4, 3) := by decide +kernel
theorem dX12_sure_65 : decode cX12_sure 65 = .ok (.iconst 0, 1) := by decide +kernel
theorem dX12_sure_66 : decode cX12_sure 66 = .ok (.ireturn, 1) := by decide +kernel
theorem dX12_before_0 : decode cX12_before 0 = .ok (.aload_n 0, 1) := by decide +kernel
theorem dX12_before_1 : decode cX12_before 1 = .ok (.iconst 0, 1) := by decide +kernel
theorem dX12_before_2 : decode cX12_before 2 = .ok (.putfield 158, 3) := by decide +kernel
theorem dX12_before_5 : decode cX12_before 5 = .ok (.aload_n 0, 1) := by decide +kernel
theorem dX12_before_6 : decode cX12_before 6 = .ok (.iload_n 1, 1) := by decide +kernel
theorem dX12_before_7 : decode cX12_before 7 = .ok (.iload_n 2, 1) := by decide +kernel
theorem dX12_before_8 : decode cX12_before 8 = .ok (.invokevirtual 294, 3) := by decide +kernel
theorem dX12_before_11 : decode cX12_before 11 = .ok (.ifCond .eq 23, 3) := by decide +kernel
theorem dX12_before_14 : decode cX12_before 14 = .ok (.iload 4, 2) := by decide +kernel
theorem dX12_before_16 : decode cX12_before 16 = .ok (.ifCond .lt 18, 3) := by decide +kernel
theorem dX12_before_19 : decode cX12_before 19 = .ok (.iload 4, 2) := by decide +kernel
theorem dX12_before_21 : decode cX12_before 21 = .ok (.iconst 1, 1) := by decide +kernel
theorem dX12_before_22 : decode cX12_before 22 = .ok (.if_icmp .gt 12, 3) := by decide +kernel
theorem dX12_before_25 : decode cX12_before 25 = .ok (.aload_n 0, 1) := by decide +kernel
theorem dX12_before_26 : decode cX12_before 26 = .ok (.iload_n 1, 1) := by decide +kernel
theorem dX12_before_27 : decode cX12_before 27 = .ok (.iload_n 2, 1) := by decide +kernel
theorem dX12_before_28 : decode cX12_before 28 = .ok (.invokevirtual 360, 3) := by decide +kernel
theorem dX12_before_31 : decode cX12_before 31 = .ok (.ifCond .ne 9, 3) := by decide +kernel
theorem dX12_before_34 : decode cX12_before 34 = .ok (.aload_n 0, 1) := by decide +kernel
theorem dX12_before_35 : decode cX12_before 35 = .ok (.iconst 1, 1) := by decide +kernel
theorem dX12_before_36 : decode cX12_before 36 = .ok (.invokevirtual 263, 3) := by decide +kernel
theorem dX12_before_39 : decode cX12_before 39 = .ok (.ireturn, 1) := by decide +kernel
theorem dX12_before_40 : decode cX12_before 40 = .ok (.iload_n 3, 1) := by decide +kernel
theorem dX12_before_41 : decode cX12_before 41 = .ok (.iconst 0, 1) := by decide +kernel
theorem dX12_before_42 : decode cX12_before 42 = .ok (.bipush 99, 2) := by decide +kernel
theorem dX12_before_44 : decode cX12_before 44 = .ok (.invokestatic 161, 3) := by decide +kernel
theorem dX12_before_47 : decode cX12_before 47 = .ok (.ifCond .ne 9, 3) := by decide +kernel
theorem dX12_before_50 : decode cX12_before 50 = .ok (.aload_n 0, 1) := by decide +kernel
theorem dX12_before_51 : decode cX12_before 51 = .ok (.iconst 2, 1) := by decide +kernel
theorem dX12_before_52 : decode cX12_before 52 = .ok (.invokevirtual 263, 3) := by decide +kernel
theorem dX12_before_55 : decode cX12_before 55 = .ok (.ireturn, 1) := by decide +kernel
theorem dX12_before_56 : decode cX12_before 56 = .ok (.iconst 0, 1) := by decide +kernel
theorem dX12_before_57 : decode cX12_before 57 = .ok (.aload_n 0, 1) := by decide +kernel
theorem dX12_before_58 : decode cX12_before 58 = .ok (.iload_n 1, 1) := by decide +kernel
theorem dX12_before_59 : decode cX12_before 59 = .ok (.iload_n 2, 1) := by decide +kernel
theorem dX12_before_60 : decode cX12_before 60 = .ok (.iload_n 2, 1) := by decide +kernel
theorem dX12_before_61 : decode cX12_before 61 = .ok (.iconst 1, 1) := by decide +kernel
theorem dX12_before_62 : decode cX12_before 62 = .ok (.isub, 1) := by decide +kernel
theorem dX12_before_63 : decode cX12_before 63 = .ok (.invokevirtual 342, 3) := by decide +kernel
theorem dX12_before_66 : decode cX12_before 66 = .ok (.invokestatic 298, 3) := by decide +kernel
theorem dX12_before_69 : decode cX12_before 69 = .ok (.i2l, 1) := by decide +kernel
theorem dX12_before_70 : decode cX12_before 70 = .ok (.lstore 5, 2) := by decide +kernel
theorem dX12_before_72 : decode cX12_before 72 = .ok (.aload_n 0, 1) := by decide +kernel
theorem dX12_before_73 : decode cX12_before 73 = .ok (.iload_n 1, 1) := by decide +kernel
theorem dX12_before_74 : decode cX12_before 74 = .ok (.iload_n 2, 1) := by decide +kernel
theorem dX12_before_75 : decode cX12_before 75 = .ok (.iload_n 2, 1) := by decide +kernel
theorem dX12_before_76 : decode cX12_before 76 = .ok (.iconst 1, 1) := by decide +kernel
theorem dX12_before_77 : decode cX12_before 77 = .ok (.isub, 1) := by decide +kernel
theorem dX12_before_78 : decode cX12_before 78 = .ok (.invokevirtual 345, 3) := by decide +kernel
theorem dX12_before_81 : decode cX12_before 81 = .ok (.i2l, 1) := by decide +kernel
theorem dX12_before_82 : decode cX12_before 82 = .ok (.lstore 7, 2) := by decide +kernel
theorem dX12_before_84 : decode cX12_before 84 = .ok (.lload 5, 2) := by decide +kernel
theorem dX12_before_86 : decode cX12_before 86 = .ok (.lload 7, 2) := by decide +kernel
theorem dX12_before_88 : decode cX12_before 88 = .ok (.lcmp, 1) := by decide +kernel
theorem dX12_before_89 : decode cX12_before 89 = .ok (.ifCond .le 5, 3) := by decide +kernel
theorem dX12_before_92 : decode cX12_before 92 = .ok (.iconst (-1), 1) := by decide +kernel
theorem dX12_before_93 : decode cX12_before 93 = .ok (.ireturn, 1) := by decide +kernel
theorem dX12_before_94 : decode cX12_before 94 = .ok (.ldc2_w 308, 3) := by decide +kernel
theorem dX12_before_97 : decode cX12_before 97 = .ok (.iload_n 3, 1) := by decide +kernel
theorem dX12_before_98 : decode cX12_before 98 = .ok (.i2l, 1) := by decide +kernel
theorem dX12_before_99 : decode cX12_before 99 = .ok (.lsub, 1) := by decide +kernel
theorem dX12_before_100 : decode cX12_before 100 = .ok (.lstore 9, 2) := by decide +kernel
theorem dX12_before_102 : decode cX12_before 102 = .ok (.iload 4, 2) := by decide +kernel
theorem dX12_before_104 : decode cX12_before 104 = .ok (.ifCond .ne 20, 3) := by decide +kernel
theorem dX12_before_107 : decode cX12_before 107 = .ok (.lload 5, 2) := by decide +kernel
theorem dX12_before_109 : decode cX12_before 109 = .ok (.ldc2_w 308, 3) := by decide +kernel
theorem dX12_before_112 : decode cX12_before 112 = .ok (.lmul, 1) := by decide +kernel
theorem dX12_before_113 : decode cX12_before 113 = .ok (.lload 9, 2) := by decide +kernel
theorem dX12_before_115 : decode cX12_before 115 = .ok (.ladd, 1) := by decide +kernel
theorem dX12_before_116 : decode cX12_before 116 = .ok (.lconst 1, 1) := by decide +kernel
theorem dX12_before_117 : decode cX12_before 117 = .ok (.lsub, 1) := by decide +kernel
theorem dX12_before_118 : decode cX12_before 118 = .ok (.lload 9, 2) := by decide +kernel
theorem dX12_before_120 : decode cX12_before 120 = .ok (.ldiv, 1) := by decide +kernel
theorem dX12_before_121 : decode cX12_before 121 = .ok (.goto 16, 3) := by decide +kernel
theorem dX12_before_124 : decode cX12_before 124 = .ok (.lload 7, 2) := by decide +kernel
theorem dX12_before_126 : decode cX12_before 126 = .ok (.lconst 1, 1) := by decide +kernel
theorem dX12_before_127 : decode cX12_before 127 = .ok (.ladd, 1) := by decide +kernel
theorem dX12_before_128 : decode cX12_before 128 = .ok (.ldc2_w 308, 3) := by decide +kernel
theorem dX12_before_131 : decode cX12_before 131 = .ok (.lmul, 1) := by decide +kernel
theorem dX12_before_132 : decode cX12_before 132 = .ok (.lconst 1, 1) := by decide +kernel
theorem dX12_before_133 : decode cX12_before 133 = .ok (.lsub, 1) := by decide +kernel
theorem dX12_before_134 : decode cX12_before 134 = .ok (.lload 9, 2) := by decide +kernel
theorem dX12_before_136 : decode cX12_before 136 = .ok (.ldiv, 1) := by decide +kernel
theorem dX12_before_137 : decode cX12_before 137 = .ok (.l2i, 1) := by decide +kernel
theorem dX12_before_138 : decode cX12_before 138 = .ok (.ireturn, 1) := by decide +kernel
theorem dX12_told_0 : decode cX12_told 0 = .ok (.aload_n 0, 1) := by decide +kernel
theorem dX12_told_1 : decode cX12_told 1 = .ok (.iconst 0, 1) := by decide +kernel
theorem dX12_told_2 : decode cX12_told 2 = .ok (.putfield 158, 3) := by decide +kernel
theorem dX12_told_5 : decode cX12_told 5 = .ok (.iload_n 1, 1) := by decide +kernel
theorem dX12_told_6 : decode cX12_told 6 = .ok (.invokestatic 165, 3) := by decide +kernel
theorem dX12_told_9 : decode cX12_told 9 = .ok (.ifCond .eq 10, 3) := by decide +kernel
theorem dX12_told_12 : decode cX12_told 12 = .ok (.iload_n 2, 1) := by decide +kernel
theorem dX12_told_13 : decode cX12_told 13 = .ok (.invokestatic 279, 3) := by decide +kernel
theorem dX12_told_16 : decode cX12_told 16 = .ok (.ifCond .ne 9, 3) := by decide +kernel
theorem dX12_told_19 : decode cX12_told 19 = .ok (.aload_n 0, 1) := by decide +kernel
theorem dX12_told_20 : decode cX12_told 20 = .ok (.iconst 1, 1) := by decide +kernel
theorem dX12_told_21 : decode cX12_told 21 = .ok (.invokevirtual 263, 3) := by decide +kernel
theorem dX12_told_24 : decode cX12_told 24 = .ok (.ireturn, 1) := by decide +kernel
theorem dX12_told_25 : decode cX12_told 25 = .ok (.iload_n 3, 1) := by decide +kernel
theorem dX12_told_26 : decode cX12_told 26 = .ok (.iconst 1, 1) := by decide +kernel
theorem dX12_told_27 : decode cX12_told 27 = .ok (.bipush 100, 2) := by decide +kernel
theorem dX12_told_29 : decode cX12_told 29 = .ok (.invokestatic 161, 3) := by decide +kernel
theorem dX12_told_32 : decode cX12_told 32 = .ok (.ifCond .ne 9, 3) := by decide +kernel
theorem dX12_told_35 : decode cX12_told 35 = .ok (.aload_n 0, 1) := by decide +kernel
theorem dX12_told_36 : decode cX12_told 36 = .ok (.iconst 2, 1) := by decide +kernel
theorem dX12_told_37 : decode cX12_told 37 = .ok (.invokevirtual 263, 3) := by decide +kernel
theorem dX12_told_40 : decode cX12_told 40 = .ok (.ireturn, 1) := by decide +kernel
theorem dX12_told_41 : decode cX12_told 41 = .ok (.aload_n 0, 1) := by decide +kernel
theorem dX12_told_42 : decode cX12_told 42 = .ok (.iload 4, 2) := by decide +kernel
theorem dX12_told_44 : decode cX12_told 44 = .ok (.putfield 320, 3) := by decide +kernel
theorem dX12_told_47 : decode cX12_told 47 = .ok (.aload_n 0, 1) := by decide +kernel
theorem dX12_told_48 : decode cX12_told 48 = .ok (.iload_n 1, 1) := by decide +kernel
theorem dX12_told_49 : decode cX12_told 49 = .ok (.bipush 7, 2) := by decide +kernel
theorem dX12_told_51 : decode cX12_told 51 = .ok (.invokevirtual 275, 3) := by decide +kernel
theorem dX12_told_54 : decode cX12_told 54 = .ok (.aload_n 0, 1) := by decide +kernel
theorem dX12_told_55 : decode cX12_told 55 = .ok (.bipush 7, 2) := by decide +kernel
theorem dX12_told_57 : decode cX12_told 57 = .ok (.invokevirtual 316, 3) := by decide +kernel
theorem dX12_told_60 : decode cX12_told 60 = .ok (.iconst 0, 1) := by decide +kernel
theorem dX12_told_61 : decode cX12_told 61 = .ok (.istore 5, 2) := by decide +kernel
theorem dX12_told_63 : decode cX12_told 63 = .ok (.iconst 0, 1) := by decide +kernel
theorem dX12_told_64 : decode cX12_told 64 = .ok (.istore 6, 2) := by decide +kernel
theorem dX12_told_66 : decode cX12_told 66 = .ok (.iload 6, 2) := by decide +kernel
theorem dX12_told_68 : decode cX12_told 68 = .ok (.iload_n 3, 1) := by decide +kernel
theorem dX12_told_69 : decode cX12_told 69 = .ok (.if_icmp .ge 92, 3) := by decide +kernel
theorem dX12_told_72 : decode cX12_told 72 = .ok (.aload_n 0, 1) := by decide +kernel
theorem dX12_told_73 : decode cX12_told 73 = .ok (.getfield 32, 3) := by decide +kernel
theorem dX12_told_76 : decode cX12_told 76 = .ok (.iload_n 1, 1) := by decide +kernel
theorem dX12_told_77 : decode cX12_told 77 = .ok (.iaload, 1) := by decide +kernel
theorem dX12_told_78 : decode cX12_told 78 = .ok (.ifCond .le 83, 3) := by decide +kernel
theorem dX12_told_81 : decode cX12_told 81 = .ok (.iconst 0, 1) := by decide +kernel
theorem dX12_told_82 : decode cX12_told 82 = .ok (.istore 7, 2) := by decide +kernel
theorem dX12_told_84 : decode cX12_told 84 = .ok (.iload 7, 2) := by decide +kernel
theorem dX12_told_86 : decode cX12_told 86 = .ok (.aload_n 0, 1) := by decide +kernel
theorem dX12_told_87 : decode cX12_told 87 = .ok (.getfield 32, 3) := by decide +kernel
theorem dX12_told_90 : decode cX12_told 90 = .ok (.iload_n 1, 1) := by decide +kernel
theorem dX12_told_91 : decode cX12_told 91 = .ok (.iaload, 1) := by decide +kernel
theorem dX12_told_92 : decode cX12_told 92 = .ok (.if_icmp .ge 22, 3) := by decide +kernel
theorem dX12_told_95 : decode cX12_told 95 = .ok (.aload_n 0, 1) := by decide +kernel
theorem dX12_told_96 : decode cX12_told 96 = .ok (.getfield 66, 3) := by decide +kernel
theorem dX12_told_99 : decode cX12_told 99 = .ok (.bipush 7, 2) := by decide +kernel
theorem dX12_told_101 : decode cX12_told 101 = .ok (.iload 7, 2) := by decide +kernel
theorem dX12_told_103 : decode cX12_told 103 = .ok (.invokestatic 244, 3) := by decide +kernel
theorem dX12_told_106 : decode cX12_told 106 = .ok (.iconst (-1), 1) := by decide +kernel
theorem dX12_told_107 : decode cX12_told 107 = .ok (.iastore, 1) := by decide +kernel
theorem dX12_told_108 : decode cX12_told 108 = .ok (.iinc 7 1, 3) := by decide +kernel
theorem dX12_told_111 : decode cX12_told 111 = .ok (.goto (-27), 3) := by decide +kernel
theorem dX12_told_114 : decode cX12_told 114 = .ok (.aload_n 0, 1) := by decide +kernel
theorem dX12_told_115 : decode cX12_told 115 = .ok (.bipush 7, 2) := by decide +kernel
theorem dX12_told_117 : decode cX12_told 117 = .ok (.invokevirtual 330, 3) := by decide +kernel
theorem dX12_told_120 : decode cX12_told 120 = .ok (.ifCond .ne 7, 3) := by decide +kernel
theorem dX12_told_123 : decode cX12_told 123 = .ok (.iconst 1, 1) := by decide +kernel
theorem dX12_told_124 : decode cX12_told 124 = .ok (.goto 4, 3) := by decide +kernel
theorem dX12_told_127 : decode cX12_told 127 = .ok (.iconst 0, 1) := by decide +kernel
theorem dX12_told_128 : decode cX12_told 128 = .ok (.istore 7, 2) := by decide +kernel
theorem dX12_told_130 : decode cX12_told 130 = .ok (.iload 5, 2) := by decide +kernel
theorem dX12_told_132 : decode cX12_told 132 = .ok (.iload 7, 2) := by decide +kernel
theorem dX12_told_134 : decode cX12_told 134 = .ok (.ifCond .eq 17, 3) := by decide +kernel
theorem dX12_told_137 : decode cX12_told 137 = .ok (.aload_n 0, 1) := by decide +kernel
theorem dX12_told_138 : decode cX12_told 138 = .ok (.bipush 7, 2) := by decide +kernel
theorem dX12_told_140 : decode cX12_told 140 = .ok (.invokevirtual 428, 3) := by decide +kernel
theorem dX12_told_143 : decode cX12_told 143 = .ok (.iload_n 2, 1) := by decide +kernel
theorem dX12_told_144 : decode cX12_told 144 = .ok (.if_icmp .ne 7, 3) := by decide +kernel
theorem dX12_told_147 : decode cX12_told 147 = .ok (.iconst 1, 1) := by decide +kernel
theorem dX12_told_148 : decode cX12_told 148 = .ok (.goto 4, 3) := by decide +kernel
theorem dX12_told_151 : decode cX12_told 151 = .ok (.iconst 0, 1) := by decide +kernel
theorem dX12_told_152 : decode cX12_told 152 = .ok (.iadd, 1) := by decide +kernel
theorem dX12_told_153 : decode cX12_told 153 = .ok (.istore 5, 2) := by decide +kernel
theorem dX12_told_155 : decode cX12_told 155 = .ok (.iinc 6 1, 3) := by decide +kernel
theorem dX12_told_158 : decode cX12_told 158 = .ok (.goto (-92), 3) := by decide +kernel
theorem dX12_told_161 : decode cX12_told 161 = .ok (.iload 5, 2) := by decide +kernel
theorem dX12_told_163 : decode cX12_told 163 = .ok (.ireturn, 1) := by decide +kernel
theorem dX12_next_0 : decode cX12_next 0 = .ok (.aload_n 0, 1) := by decide +kernel
theorem dX12_next_1 : decode cX12_next 1 = .ok (.iconst 0, 1) := by decide +kernel
theorem dX12_next_2 : decode cX12_next 2 = .ok (.putfield 158, 3) := by decide +kernel
theorem dX12_next_5 : decode cX12_next 5 = .ok (.iload_n 1, 1) := by decide +kernel
theorem dX12_next_6 : decode cX12_next 6 = .ok (.invokestatic 165, 3) := by decide +kernel
theorem dX12_next_9 : decode cX12_next 9 = .ok (.ifCond .ne 9, 3) := by decide +kernel
theorem dX12_next_12 : decode cX12_next 12 = .ok (.aload_n 0, 1) := by decide +kernel
theorem dX12_next_13 : decode cX12_next 13 = .ok (.iconst 1, 1) := by decide +kernel
theorem dX12_next_14 : decode cX12_next 14 = .ok (.invokevirtual 263, 3) := by decide +kernel
theorem dX12_next_17 : decode cX12_next 17 = .ok (.ireturn, 1) := by decide +kernel
theorem dX12_next_18 : decode cX12_next 18 = .ok (.iconst 0, 1) := by decide +kernel
theorem dX12_next_19 : decode cX12_next 19 = .ok (.istore_n 2, 1) := by decide +kernel
theorem dX12_next_20 : decode cX12_next 20 = .ok (.iload_n 2, 1) := by decide +kernel
theorem dX12_next_21 : decode cX12_next 21 = .ok (.aload_n 0, 1) := by decide +kernel
theorem dX12_next_22 : decode cX12_next 22 = .ok (.getfield 32, 3) := by decide +kernel
theorem dX12_next_25 : decode cX12_next 25 = .ok (.iload_n 1, 1) := by decide +kernel
theorem dX12_next_26 : decode cX12_next 26 = .ok (.iaload, 1) := by decide +kernel
theorem dX12_next_27 : decode cX12_next 27 = .ok (.if_icmp .ge 25, 3) := by decide +kernel
theorem dX12_next_30 : decode cX12_next 30 = .ok (.aload_n 0, 1) := by decide +kernel
theorem dX12_next_31 : decode cX12_next 31 = .ok (.getfield 66, 3) := by decide +kernel
theorem dX12_next_34 : decode cX12_next 34 = .ok (.iload_n 1, 1) := by decide +kernel
theorem dX12_next_35 : decode cX12_next 35 = .ok (.iload_n 2, 1) := by decide +kernel
theorem dX12_next_36 : decode cX12_next 36 = .ok (.invokestatic 244, 3) := by decide +kernel
theorem dX12_next_39 : decode cX12_next 39 = .ok (.iaload, 1) := by decide +kernel
theorem dX12_next_40 : decode cX12_next 40 = .ok (.iconst (-1), 1) := by decide +kernel
theorem dX12_next_41 : decode cX12_next 41 = .ok (.if_icmp .ne 5, 3) := by decide +kernel
theorem dX12_next_44 : decode cX12_next 44 = .ok (.iload_n 2, 1) := by decide +kernel
theorem dX12_next_45 : decode cX12_next 45 = .ok (.ireturn, 1) := by decide +kernel
theorem dX12_next_46 : decode cX12_next 46 = .ok (.iinc 2 1, 3) := by decide +kernel
theorem dX12_next_49 : decode cX12_next 49 = .ok (.goto (-29), 3) := by decide +kernel
theorem dX12_next_52 : decode cX12_next 52 = .ok (.iconst 0, 1) := by decide +kernel
theorem dX12_next_53 : decode cX12_next 53 = .ok (.istore_n 2, 1) := by decide +kernel
theorem dX12_next_54 : decode cX12_next 54 = .ok (.iload_n 2, 1) := by decide +kernel
theorem dX12_next_55 : decode cX12_next 55 = .ok (.aload_n 0, 1) := by decide +kernel
theorem dX12_next_56 : decode cX12_next 56 = .ok (.getfield 32, 3) := by decide +kernel
theorem dX12_next_59 : decode cX12_next 59 = .ok (.iload_n 1, 1) := by decide +kernel
theorem dX12_next_60 : decode cX12_next 60 = .ok (.iaload, 1) := by decide +kernel
theorem dX12_next_61 : decode cX12_next 61 = .ok (.if_icmp .ge 20, 3) := by decide +kernel
theorem dX12_next_64 : decode cX12_next 64 = .ok (.aload_n 0, 1) := by decide +kernel
theorem dX12_next_65 : decode cX12_next 65 = .ok (.iload_n 1, 1) := by decide +kernel
theorem dX12_next_66 : decode cX12_next 66 = .ok (.iload_n 2, 1) := by decide +kernel
theorem dX12_next_67 : decode cX12_next 67 = .ok (.invokevirtual 357, 3) := by decide +kernel
theorem dX12_next_70 : decode cX12_next 70 = .ok (.ifCond .eq 5, 3) := by decide +kernel
theorem dX12_next_73 : decode cX12_next 73 = .ok (.iload_n 2, 1) := by decide +kernel
theorem dX12_next_74 : decode cX12_next 74 = .ok (.ireturn, 1) := by decide +kernel
theorem dX12_next_75 : decode cX12_next 75 = .ok (.iinc 2 1, 3) := by decide +kernel
theorem dX12_next_78 : decode cX12_next 78 = .ok (.goto (-24), 3) := by decide +kernel
theorem dX12_next_81 : decode cX12_next 81 = .ok (.iconst (-1), 1) := by decide +kernel
theorem dX12_next_82 : decode cX12_next 82 = .ok (.istore_n 2, 1) := by decide +kernel
theorem dX12_next_83 : decode cX12_next 83 = .ok (.iconst (-1), 1) := by decide +kernel
theorem dX12_next_84 : decode cX12_next 84 = .ok (.istore_n 3, 1) := by decide +kernel
theorem dX12_next_85 : decode cX12_next 85 = .ok (.iconst 0, 1) := by decide +kernel
theorem dX12_next_86 : decode cX12_next 86 = .ok (.istore 4, 2) := by decide +kernel
theorem dX12_next_88 : decode cX12_next 88 = .ok (.iload 4, 2) := by decide +kernel
theorem dX12_next_90 : decode cX12_next 90 = .ok (.aload_n 0, 1) := by decide +kernel
theorem dX12_next_91 : decode cX12_next 91 = .ok (.getfield 32, 3) := by decide +kernel
theorem dX12_next_94 : decode cX12_next 94 = .ok (.iload_n 1, 1) := by decide +kernel
theorem dX12_next_95 : decode cX12_next 95 = .ok (.iaload, 1) := by decide +kernel
theorem dX12_next_96 : decode cX12_next 96 = .ok (.if_icmp .ge 41, 3) := by decide +kernel
theorem dX12_next_99 : decode cX12_next 99 = .ok (.aload_n 0, 1) := by decide +kernel
theorem dX12_next_100 : decode cX12_next 100 = .ok (.iload_n 1, 1) := by decide +kernel
theorem dX12_next_101 : decode cX12_next 101 = .ok (.iload 4, 2) := by decide +kernel
theorem dX12_next_103 : decode cX12_next 103 = .ok (.invokevirtual 354, 3) := by decide +kernel
theorem dX12_next_106 : decode cX12_next 106 = .ok (.aload_n 0, 1) := by decide +kernel
theorem dX12_next_107 : decode cX12_next 107 = .ok (.iload_n 1, 1) := by decide +kernel
theorem dX12_next_108 : decode cX12_next 108 = .ok (.iload 4, 2) := by decide +kernel
theorem dX12_next_110 : decode cX12_next 110 = .ok (.invokevirtual 351, 3) := by decide +kernel
theorem dX12_next_113 : decode cX12_next 113 = .ok (.isub, 1) := by decide +kernel
theorem dX12_next_114 : decode cX12_next 114 = .ok (.istore 5, 2) := by decide +kernel
theorem dX12_next_116 : decode cX12_next 116 = .ok (.iload 5, 2) := by decide +kernel
theorem dX12_next_118 : decode cX12_next 118 = .ok (.iload_n 3, 1) := by decide +kernel
theorem dX12_next_119 : decode cX12_next 119 = .ok (.if_icmp .gt 6, 3) := by decide +kernel
theorem dX12_next_122 : decode cX12_next 122 = .ok (.goto 9, 3) := by decide +kernel
theorem dX12_next_125 : decode cX12_next 125 = .ok (.iload 4, 2) := by decide +kernel
theorem dX12_next_127 : decode cX12_next 127 = .ok (.istore_n 2, 1) := by decide +kernel
theorem dX12_next_128 : decode cX12_next 128 = .ok (.iload 5, 2) := by decide +kernel
theorem dX12_next_130 : decode cX12_next 130 = .ok (.istore_n 3, 1) := by decide +kernel
theorem dX12_next_131 : decode cX12_next 131 = .ok (.iinc 4 1, 3) := by decide +kernel
theorem dX12_next_134 : decode cX12_next 134 = .ok (.goto (-46), 3) := by decide +kernel
theorem dX12_next_137 : decode cX12_next 137 = .ok (.iload_n 2, 1) := by decide +kernel
theorem dX12_next_138 : decode cX12_next 138 = .ok (.ireturn, 1) := by decide +kernel
theorem dX12_image_0 : decode cX12_image 0 = .ok (.aload_n 0, 1) := by decide +kernel
theorem dX12_image_1 : decode cX12_image 1 = .ok (.iconst 0, 1) := by decide +kernel
theorem dX12_image_2 : decode cX12_image 2 = .ok (.putfield 158, 3) := by decide +kernel
theorem dX12_image_5 : decode cX12_image 5 = .ok (.aload_n 0, 1) := by decide +kernel
theorem dX12_image_6 : decode cX12_image 6 = .ok (.iconst 1, 1) := by decide +kernel
theorem dX12_image_7 : decode cX12_image 7 = .ok (.putfield 455, 3) := by decide +kernel
theorem dX12_image_10 : decode cX12_image 10 = .ok (.iconst 0, 1) := by decide +kernel
theorem dX12_image_11 : decode cX12_image 11 = .ok (.istore_n 1, 1) := by decide +kernel
theorem dX12_image_12 : decode cX12_image 12 = .ok (.iload_n 1, 1) := by decide +kernel
theorem dX12_image_13 : decode cX12_image 13 = .ok (.bipush 6, 2) := by decide +kernel
theorem dX12_image_15 : decode cX12_image 15 = .ok (.if_icmp .ge 79, 3) := by decide +kernel
theorem dX12_image_18 : decode cX12_image 18 = .ok (.aload_n 0, 1) := by decide +kernel
theorem dX12_image_19 : decode cX12_image 19 = .ok (.getfield 152, 3) := by decide +kernel
theorem dX12_image_22 : decode cX12_image 22 = .ok (.iload_n 1, 1) := by decide +kernel
theorem dX12_image_23 : decode cX12_image 23 = .ok (.aload_n 0, 1) := by decide +kernel
theorem dX12_image_24 : decode cX12_image 24 = .ok (.getfield 47, 3) := by decide +kernel
theorem dX12_image_27 : decode cX12_image 27 = .ok (.iload_n 1, 1) := by decide +kernel
theorem dX12_image_28 : decode cX12_image 28 = .ok (.iaload, 1) := by decide +kernel
theorem dX12_image_29 : decode cX12_image 29 = .ok (.iastore, 1) := by decide +kernel
theorem dX12_image_30 : decode cX12_image 30 = .ok (.iconst 0, 1) := by decide +kernel
theorem dX12_image_31 : decode cX12_image 31 = .ok (.istore_n 2, 1) := by decide +kernel
theorem dX12_image_32 : decode cX12_image 32 = .ok (.iload_n 2, 1) := by decide +kernel
theorem dX12_image_33 : decode cX12_image 33 = .ok (.aload_n 0, 1) := by decide +kernel
theorem dX12_image_34 : decode cX12_image 34 = .ok (.getfield 32, 3) := by decide +kernel
theorem dX12_image_37 : decode cX12_image 37 = .ok (.iload_n 1, 1) := by decide +kernel
theorem dX12_image_38 : decode cX12_image 38 = .ok (.iaload, 1) := by decide +kernel
theorem dX12_image_39 : decode cX12_image 39 = .ok (.if_icmp .ge 49, 3) := by decide +kernel
theorem dX12_image_42 : decode cX12_image 42 = .ok (.aload_n 0, 1) := by decide +kernel
theorem dX12_image_43 : decode cX12_image 43 = .ok (.getfield 146, 3) := by decide +kernel
theorem dX12_image_46 : decode cX12_image 46 = .ok (.iload_n 1, 1) := by decide +kernel
theorem dX12_image_47 : decode cX12_image 47 = .ok (.iload_n 2, 1) := by decide +kernel
theorem dX12_image_48 : decode cX12_image 48 = .ok (.invokestatic 244, 3) := by decide +kernel
theorem dX12_image_51 : decode cX12_image 51 = .ok (.aload_n 0, 1) := by decide +kernel
theorem dX12_image_52 : decode cX12_image 52 = .ok (.getfield 66, 3) := by decide +kernel
theorem dX12_image_55 : decode cX12_image 55 = .ok (.iload_n 1, 1) := by decide +kernel
theorem dX12_image_56 : decode cX12_image 56 = .ok (.iload_n 2, 1) := by decide +kernel
theorem dX12_image_57 : decode cX12_image 57 = .ok (.invokestatic 244, 3) := by decide +kernel
theorem dX12_image_60 : decode cX12_image 60 = .ok (.iaload, 1) := by decide +kernel
theorem dX12_image_61 : decode cX12_image 61 = .ok (.iastore, 1) := by decide +kernel
theorem dX12_image_62 : decode cX12_image 62 = .ok (.aload_n 0, 1) := by decide +kernel
theorem dX12_image_63 : decode cX12_image 63 = .ok (.getfield 149, 3) := by decide +kernel
theorem dX12_image_66 : decode cX12_image 66 = .ok (.iload_n 1, 1) := by decide +kernel
theorem dX12_image_67 : decode cX12_image 67 = .ok (.iload_n 2, 1) := by decide +kernel
theorem dX12_image_68 : decode cX12_image 68 = .ok (.invokestatic 244, 3) := by decide +kernel
theorem dX12_image_71 : decode cX12_image 71 = .ok (.aload_n 0, 1) := by decide +kernel
theorem dX12_image_72 : decode cX12_image 72 = .ok (.getfield 69, 3) := by decide +kernel
theorem dX12_image_75 : decode cX12_image 75 = .ok (.iload_n 1, 1) := by decide +kernel
theorem dX12_image_76 : decode cX12_image 76 = .ok (.iload_n 2, 1) := by decide +kernel
theorem dX12_image_77 : decode cX12_image 77 = .ok (.invokestatic 244, 3) := by decide +kernel
theorem dX12_image_80 : decode cX12_image 80 = .ok (.iaload, 1) := by decide +kernel
theorem dX12_image_81 : decode cX12_image 81 = .ok (.iastore, 1) := by decide +kernel
theorem dX12_image_82 : decode cX12_image 82 = .ok (.iinc 2 1, 3) := by decide +kernel
theorem dX12_image_85 : decode cX12_image 85 = .ok (.goto (-53), 3) := by decide +kernel
theorem dX12_image_88 : decode cX12_image 88 = .ok (.iinc 1 1, 3) := by decide +kernel
theorem dX12_image_91 : decode cX12_image 91 = .ok (.goto (-79), 3) := by decide +kernel
theorem dX12_image_94 : decode cX12_image 94 = .ok (.iconst 0, 1) := by decide +kernel
theorem dX12_image_95 : decode cX12_image 95 = .ok (.istore_n 1, 1) := by decide +kernel
theorem dX12_image_96 : decode cX12_image 96 = .ok (.iload_n 1, 1) := by decide +kernel
theorem dX12_image_97 : decode cX12_image 97 = .ok (.iconst 4, 1) := by decide +kernel
theorem dX12_image_98 : decode cX12_image 98 = .ok (.if_icmp .ge 21, 3) := by decide +kernel
theorem dX12_image_101 : decode cX12_image 101 = .ok (.aload_n 0, 1) := by decide +kernel
theorem dX12_image_102 : decode cX12_image 102 = .ok (.getfield 155, 3) := by decide +kernel
theorem dX12_image_105 : decode cX12_image 105 = .ok (.iload_n 1, 1) := by decide +kernel
theorem dX12_image_106 : decode cX12_image 106 = .ok (.aload_n 0, 1) := by decide +kernel
theorem dX12_image_107 : decode cX12_image 107 = .ok (.getfield 96, 3) := by decide +kernel
theorem dX12_image_110 : decode cX12_image 110 = .ok (.iload_n 1, 1) := by decide +kernel
theorem dX12_image_111 : decode cX12_image 111 = .ok (.iaload, 1) := by decide +kernel
theorem dX12_image_112 : decode cX12_image 112 = .ok (.iastore, 1) := by decide +kernel
theorem dX12_image_113 : decode cX12_image 113 = .ok (.iinc 1 1, 3) := by decide +kernel
theorem dX12_image_116 : decode cX12_image 116 = .ok (.goto (-20), 3) := by decide +kernel
theorem dX12_image_119 : decode cX12_image 119 = .ok (.return_, 1) := by decide +kernel
theorem dX12_restore_0 : decode cX12_restore 0 = .ok (.aload_n 0, 1) := by decide +kernel
theorem dX12_restore_1 : decode cX12_restore 1 = .ok (.iconst 0, 1) := by decide +kernel
theorem dX12_restore_2 : decode cX12_restore 2 = .ok (.putfield 158, 3) := by decide +kernel
theorem dX12_restore_5 : decode cX12_restore 5 = .ok (.aload_n 0, 1) := by decide +kernel
theorem dX12_restore_6 : decode cX12_restore 6 = .ok (.getfield 455, 3) := by decide +kernel
theorem dX12_restore_9 : decode cX12_restore 9 = .ok (.ifCond .ne 5, 3) := by decide +kernel
theorem dX12_restore_12 : decode cX12_restore 12 = .ok (.iconst 0, 1) := by decide +kernel
theorem dX12_restore_13 : decode cX12_restore 13 = .ok (.ireturn, 1) := by decide +kernel
theorem dX12_restore_14 : decode cX12_restore 14 = .ok (.iconst 0, 1) := by decide +kernel
theorem dX12_restore_15 : decode cX12_restore 15 = .ok (.istore_n 1, 1) := by decide +kernel
theorem dX12_restore_16 : decode cX12_restore 16 = .ok (.iload_n 1, 1) := by decide +kernel
theorem dX12_restore_17 : decode cX12_restore 17 = .ok (.bipush 6, 2) := by decide +kernel
theorem dX12_restore_19 : decode cX12_restore 19 = .ok (.if_icmp .ge 104, 3) := by decide +kernel
theorem dX12_restore_22 : decode cX12_restore 22 = .ok (.aload_n 0, 1) := by decide +kernel
theorem dX12_restore_23 : decode cX12_restore 23 = .ok (.getfield 152, 3) := by decide +kernel
theorem dX12_restore_26 : decode cX12_restore 26 = .ok (.iload_n 1, 1) := by decide +kernel
theorem dX12_restore_27 : decode cX12_restore 27 = .ok (.iaload, 1) := by decide +kernel
theorem dX12_restore_28 : decode cX12_restore 28 = .ok (.aload_n 0, 1) := by decide +kernel
theorem dX12_restore_29 : decode cX12_restore 29 = .ok (.getfield 47, 3) := by decide +kernel
theorem dX12_restore_32 : decode cX12_restore 32 = .ok (.iload_n 1, 1) := by decide +kernel
theorem dX12_restore_33 : decode cX12_restore 33 = .ok (.iaload, 1) := by decide +kernel
theorem dX12_restore_34 : decode cX12_restore 34 = .ok (.if_icmp .ne 7, 3) := by decide +kernel
theorem dX12_restore_37 : decode cX12_restore 37 = .ok (.iconst 1, 1) := by decide +kernel
theorem dX12_restore_38 : decode cX12_restore 38 = .ok (.goto 4, 3) := by decide +kernel
theorem dX12_restore_41 : decode cX12_restore 41 = .ok (.iconst 0, 1) := by decide +kernel
theorem dX12_restore_42 : decode cX12_restore 42 = .ok (.istore_n 2, 1) := by decide +kernel
theorem dX12_restore_43 : decode cX12_restore 43 = .ok (.iconst 0, 1) := by decide +kernel
theorem dX12_restore_44 : decode cX12_restore 44 = .ok (.istore_n 3, 1) := by decide +kernel
theorem dX12_restore_45 : decode cX12_restore 45 = .ok (.iload_n 3, 1) := by decide +kernel
theorem dX12_restore_46 : decode cX12_restore 46 = .ok (.aload_n 0, 1) := by decide +kernel
theorem dX12_restore_47 : decode cX12_restore 47 = .ok (.getfield 32, 3) := by decide +kernel
theorem dX12_restore_50 : decode cX12_restore 50 = .ok (.iload_n 1, 1) := by decide +kernel
theorem dX12_restore_51 : decode cX12_restore 51 = .ok (.iaload, 1) := by decide +kernel
theorem dX12_restore_52 : decode cX12_restore 52 = .ok (.if_icmp .ge 65, 3) := by decide +kernel
theorem dX12_restore_55 : decode cX12_restore 55 = .ok (.aload_n 0, 1) := by decide +kernel
theorem dX12_restore_56 : decode cX12_restore 56 = .ok (.getfield 66, 3) := by decide +kernel
theorem dX12_restore_59 : decode cX12_restore 59 = .ok (.iload_n 1, 1) := by decide +kernel
theorem dX12_restore_60 : decode cX12_restore 60 = .ok (.iload_n 3, 1) := by decide +kernel
theorem dX12_restore_61 : decode cX12_restore 61 = .ok (.invokestatic 244, 3) := by decide +kernel
theorem dX12_restore_64 : decode cX12_restore 64 = .ok (.iload_n 2, 1) := by decide +kernel
theorem dX12_restore_65 : decode cX12_restore 65 = .ok (.ifCond .eq 16, 3) := by decide +kernel
theorem dX12_restore_68 : decode cX12_restore 68 = .ok (.aload_n 0, 1) := by decide +kernel
theorem dX12_restore_69 : decode cX12_restore 69 = .ok (.getfield 146, 3) := by decide +kernel
theorem dX12_restore_72 : decode cX12_restore 72 = .ok (.iload_n 1, 1) := by decide +kernel
theorem dX12_restore_73 : decode cX12_restore 73 = .ok (.iload_n 3, 1) := by decide +kernel
theorem dX12_restore_74 : decode cX12_restore 74 = .ok (.invokestatic 244, 3) := by decide +kernel
theorem dX12_restore_77 : decode cX12_restore 77 = .ok (.iaload, 1) := by decide +kernel
theorem dX12_restore_78 : decode cX12_restore 78 = .ok (.goto 4, 3) := by decide +kernel
theorem dX12_restore_81 : decode cX12_restore 81 = .ok (.iconst (-1), 1) := by decide +kernel
theorem dX12_restore_82 : decode cX12_restore 82 = .ok (.iastore, 1) := by decide +kernel
theorem dX12_restore_83 : decode cX12_restore 83 = .ok (.aload_n 0, 1) := by decide +kernel
theorem dX12_restore_84 : decode cX12_restore 84 = .ok (.getfield 69, 3) := by decide +kernel
theorem dX12_restore_87 : decode cX12_restore 87 = .ok (.iload_n 1, 1) := by decide +kernel
theorem dX12_restore_88 : decode cX12_restore 88 = .ok (.iload_n 3, 1) := by decide +kernel
theorem dX12_restore_89 : decode cX12_restore 89 = .ok (.invokestatic 244, 3) := by decide +kernel
theorem dX12_restore_92 : decode cX12_restore 92 = .ok (.iload_n 2, 1) := by decide +kernel
theorem dX12_restore_93 : decode cX12_restore 93 = .ok (.ifCond .eq 16, 3) := by decide +kernel
theorem dX12_restore_96 : decode cX12_restore 96 = .ok (.aload_n 0, 1) := by decide +kernel
theorem dX12_restore_97 : decode cX12_restore 97 = .ok (.getfield 149, 3) := by decide +kernel
theorem dX12_restore_100 : decode cX12_restore 100 = .ok (.iload_n 1, 1) := by decide +kernel
theorem dX12_restore_101 : decode cX12_restore 101 = .ok (.iload_n 3, 1) := by decide +kernel
theorem dX12_restore_102 : decode cX12_restore 102 = .ok (.invokestatic 244, 3) := by decide +kernel
theorem dX12_restore_105 : decode cX12_restore 105 = .ok (.iaload, 1) := by decide +kernel
theorem dX12_restore_106 : decode cX12_restore 106 = .ok (.goto 4, 3) := by decide +kernel
theorem dX12_restore_109 : decode cX12_restore 109 = .ok (.iconst 0, 1) := by decide +kernel
theorem dX12_restore_110 : decode cX12_restore 110 = .ok (.iastore, 1) := by decide +kernel
theorem dX12_restore_111 : decode cX12_restore 111 = .ok (.iinc 3 1, 3) := by decide +kernel
theorem dX12_restore_114 : decode cX12_restore 114 = .ok (.goto (-69), 3) := by decide +kernel
theorem dX12_restore_117 : decode cX12_restore 117 = .ok (.iinc 1 1, 3) := by decide +kernel
theorem dX12_restore_120 : decode cX12_restore 120 = .ok (.goto (-104), 3) := by decide +kernel
theorem dX12_restore_123 : decode cX12_restore 123 = .ok (.iconst 0, 1) := by decide +kernel
theorem dX12_restore_124 : decode cX12_restore 124 = .ok (.istore_n 1, 1) := by decide +kernel
theorem dX12_restore_125 : decode cX12_restore 125 = .ok (.iload_n 1, 1) := by decide +kernel
theorem dX12_restore_126 : decode cX12_restore 126 = .ok (.iconst 4, 1) := by decide +kernel
theorem dX12_restore_127 : decode cX12_restore 127 = .ok (.if_icmp .ge 21, 3) := by decide +kernel
theorem dX12_restore_130 : decode cX12_restore 130 = .ok (.aload_n 0, 1) := by decide +kernel
theorem dX12_restore_131 : decode cX12_restore 131 = .ok (.getfield 96, 3) := by decide +kernel
theorem dX12_restore_134 : decode cX12_restore 134 = .ok (.iload_n 1, 1) := by decide +kernel
theorem dX12_restore_135 : decode cX12_restore 135 = .ok (.aload_n 0, 1) := by decide +kernel
theorem dX12_restore_136 : decode cX12_restore 136 = .ok (.getfield 155, 3) := by decide +kernel
theorem dX12_restore_139 : decode cX12_restore 139 = .ok (.iload_n 1, 1) := by decide +kernel
theorem dX12_restore_140 : decode cX12_restore 140 = .ok (.iaload, 1) := by decide +kernel
theorem dX12_restore_141 : decode cX12_restore 141 = .ok (.iastore, 1) := by decide +kernel
theorem dX12_restore_142 : decode cX12_restore 142 = .ok (.iinc 1 1, 3) := by decide +kernel
theorem dX12_restore_145 : decode cX12_restore 145 = .ok (.goto (-20), 3) := by decide +kernel
theorem dX12_restore_148 : decode cX12_restore 148 = .ok (.iconst 1, 1) := by decide +kernel
theorem dX12_restore_149 : decode cX12_restore 149 = .ok (.ireturn, 1) := by decide +kernel
theorem dJ9_floorDiv_7cf53_0 : decode cJ9_floorDiv_7cf53 0 = .ok (.iload_n 0, 1) := by decide +kernel
theorem dJ9_floorDiv_7cf53_1 : decode cJ9_floorDiv_7cf53 1 = .ok (.iload_n 1, 1) := by decide +kernel
theorem dJ9_floorDiv_7cf53_2 : decode cJ9_floorDiv_7cf53 2 = .ok (.idiv, 1) := by decide +kernel
theorem dJ9_floorDiv_7cf53_3 : decode cJ9_floorDiv_7cf53 3 = .ok (.istore_n 2, 1) := by decide +kernel
theorem dJ9_floorDiv_7cf53_4 : decode cJ9_floorDiv_7cf53 4 = .ok (.iload_n 0, 1) := by decide +kernel
theorem dJ9_floorDiv_7cf53_5 : decode cJ9_floorDiv_7cf53 5 = .ok (.iload_n 1, 1) := by decide +kernel
theorem dJ9_floorDiv_7cf53_6 : decode cJ9_floorDiv_7cf53 6 = .ok (.ixor, 1) := by decide +kernel
theorem dJ9_floorDiv_7cf53_7 : decode cJ9_floorDiv_7cf53 7 = .ok (.ifCond .ge 14, 3) := by decide +kernel
theorem dJ9_floorDiv_7cf53_10 : decode cJ9_floorDiv_7cf53 10 = .ok (.iload_n 2, 1) := by decide +kernel
theorem dJ9_floorDiv_7cf53_11 : decode cJ9_floorDiv_7cf53 11 = .ok (.iload_n 1, 1) := by decide +kernel
theorem dJ9_floorDiv_7cf53_12 : decode cJ9_floorDiv_7cf53 12 = .ok (.imul, 1) := by decide +kernel
theorem dJ9_floorDiv_7cf53_13 : decode cJ9_floorDiv_7cf53 13 = .ok (.iload_n 0, 1) := by decide +kernel
theorem dJ9_floorDiv_7cf53_14 : decode cJ9_floorDiv_7cf53 14 = .ok (.if_icmp .eq 7, 3) := by decide +kernel
theorem dJ9_floorDiv_7cf53_17 : decode cJ9_floorDiv_7cf53 17 = .ok (.iload_n 2, 1) := by decide +kernel
theorem dJ9_floorDiv_7cf53_18 : decode cJ9_floorDiv_7cf53 18 = .ok (.iconst 1, 1) := by decide +kernel
theorem dJ9_floorDiv_7cf53_19 : decode cJ9_floorDiv_7cf53 19 = .ok (.isub, 1) := by decide +kernel
theorem dJ9_floorDiv_7cf53_20 : decode cJ9_floorDiv_7cf53 20 = .ok (.ireturn, 1) := by decide +kernel
theorem dJ9_floorDiv_7cf53_21 : decode cJ9_floorDiv_7cf53 21 = .ok (.iload_n 2, 1) := by decide +kernel
theorem dJ9_floorDiv_7cf53_22 : decode cJ9_floorDiv_7cf53 22 = .ok (.ireturn, 1) := by decide +kernel
theorem dJ9_floorDiv_f86c9_0 : decode cJ9_floorDiv_f86c9 0 = .ok (.lload_n 0, 1) := by decide +kernel
theorem dJ9_floorDiv_f86c9_1 : decode cJ9_floorDiv_f86c9 1 = .ok (.lload_n 2, 1) := by decide +kernel
theorem dJ9_floorDiv_f86c9_2 : decode cJ9_floorDiv_f86c9 2 = .ok (.ldiv, 1) := by decide +kernel
theorem dJ9_floorDiv_f86c9_3 : decode cJ9_floorDiv_f86c9 3 = .ok (.lstore 4, 2) := by decide +kernel
theorem dJ9_floorDiv_f86c9_5 : decode cJ9_floorDiv_f86c9 5 = .ok (.lload_n 0, 1) := by decide +kernel
theorem dJ9_floorDiv_f86c9_6 : decode cJ9_floorDiv_f86c9 6 = .ok (.lload_n 2, 1) := by decide +kernel
theorem dJ9_floorDiv_f86c9_7 : decode cJ9_floorDiv_f86c9 7 = .ok (.lxor, 1) := by decide +kernel
theorem dJ9_floorDiv_f86c9_8 : decode cJ9_floorDiv_f86c9 8 = .ok (.lconst 0, 1) := by decide +kernel
theorem dJ9_floorDiv_f86c9_9 : decode cJ9_floorDiv_f86c9 9 = .ok (.lcmp, 1) := by decide +kernel
theorem dJ9_floorDiv_f86c9_10 : decode cJ9_floorDiv_f86c9 10 = .ok (.ifCond .ge 17, 3) := by decide +kernel
theorem dJ9_floorDiv_f86c9_13 : decode cJ9_floorDiv_f86c9 13 = .ok (.lload 4, 2) := by decide +kernel
theorem dJ9_floorDiv_f86c9_15 : decode cJ9_floorDiv_f86c9 15 = .ok (.lload_n 2, 1) := by decide +kernel
theorem dJ9_floorDiv_f86c9_16 : decode cJ9_floorDiv_f86c9 16 = .ok (.lmul, 1) := by decide +kernel
theorem dJ9_floorDiv_f86c9_17 : decode cJ9_floorDiv_f86c9 17 = .ok (.lload_n 0, 1) := by decide +kernel
theorem dJ9_floorDiv_f86c9_18 : decode cJ9_floorDiv_f86c9 18 = .ok (.lcmp, 1) := by decide +kernel
theorem dJ9_floorDiv_f86c9_19 : decode cJ9_floorDiv_f86c9 19 = .ok (.ifCond .eq 8, 3) := by decide +kernel
theorem dJ9_floorDiv_f86c9_22 : decode cJ9_floorDiv_f86c9 22 = .ok (.lload 4, 2) := by decide +kernel
theorem dJ9_floorDiv_f86c9_24 : decode cJ9_floorDiv_f86c9 24 = .ok (.lconst 1, 1) := by decide +kernel
theorem dJ9_floorDiv_f86c9_25 : decode cJ9_floorDiv_f86c9 25 = .ok (.lsub, 1) := by decide +kernel
theorem dJ9_floorDiv_f86c9_26 : decode cJ9_floorDiv_f86c9 26 = .ok (.lreturn, 1) := by decide +kernel
theorem dJ9_floorDiv_f86c9_27 : decode cJ9_floorDiv_f86c9 27 = .ok (.lload 4, 2) := by decide +kernel
theorem dJ9_floorDiv_f86c9_29 : decode cJ9_floorDiv_f86c9 29 = .ok (.lreturn, 1) := by decide +kernel
theorem dJ9_floorMod_7cf53_0 : decode cJ9_floorMod_7cf53 0 = .ok (.iload_n 0, 1) := by decide +kernel
theorem dJ9_floorMod_7cf53_1 : decode cJ9_floorMod_7cf53 1 = .ok (.iload_n 1, 1) := by decide +kernel
theorem dJ9_floorMod_7cf53_2 : decode cJ9_floorMod_7cf53 2 = .ok (.irem, 1) := by decide +kernel
theorem dJ9_floorMod_7cf53_3 : decode cJ9_floorMod_7cf53 3 = .ok (.istore_n 2, 1) := by decide +kernel
theorem dJ9_floorMod_7cf53_4 : decode cJ9_floorMod_7cf53 4 = .ok (.iload_n 0, 1) := by decide +kernel
theorem dJ9_floorMod_7cf53_5 : decode cJ9_floorMod_7cf53 5 = .ok (.iload_n 1, 1) := by decide +kernel
theorem dJ9_floorMod_7cf53_6 : decode cJ9_floorMod_7cf53 6 = .ok (.ixor, 1) := by decide +kernel
theorem dJ9_floorMod_7cf53_7 : decode cJ9_floorMod_7cf53 7 = .ok (.ifCond .ge 11, 3) := by decide +kernel
theorem dJ9_floorMod_7cf53_10 : decode cJ9_floorMod_7cf53 10 = .ok (.iload_n 2, 1) := by decide +kernel
theorem dJ9_floorMod_7cf53_11 : decode cJ9_floorMod_7cf53 11 = .ok (.ifCond .eq 7, 3) := by decide +kernel
theorem dJ9_floorMod_7cf53_14 : decode cJ9_floorMod_7cf53 14 = .ok (.iload_n 2, 1) := by decide +kernel
theorem dJ9_floorMod_7cf53_15 : decode cJ9_floorMod_7cf53 15 = .ok (.iload_n 1, 1) := by decide +kernel
theorem dJ9_floorMod_7cf53_16 : decode cJ9_floorMod_7cf53 16 = .ok (.iadd, 1) := by decide +kernel
theorem dJ9_floorMod_7cf53_17 : decode cJ9_floorMod_7cf53 17 = .ok (.ireturn, 1) := by decide +kernel
theorem dJ9_floorMod_7cf53_18 : decode cJ9_floorMod_7cf53 18 = .ok (.iload_n 2, 1) := by decide +kernel
theorem dJ9_floorMod_7cf53_19 : decode cJ9_floorMod_7cf53 19 = .ok (.ireturn, 1) := by decide +kernel
theorem dJ9_abs_0f7a4_0 : decode cJ9_abs_0f7a4 0 = .ok (.iload_n 0, 1) := by decide +kernel
theorem dJ9_abs_0f7a4_1 : decode cJ9_abs_0f7a4 1 = .ok (.ifCond .ge 8, 3) := by decide +kernel
theorem dJ9_abs_0f7a4_4 : decode cJ9_abs_0f7a4 4 = .ok (.iload_n 0, 1) := by decide +kernel
theorem dJ9_abs_0f7a4_5 : decode cJ9_abs_0f7a4 5 = .ok (.ineg, 1) := by decide +kernel
theorem dJ9_abs_0f7a4_6 : decode cJ9_abs_0f7a4 6 = .ok (.goto 4, 3) := by decide +kernel
theorem dJ9_abs_0f7a4_9 : decode cJ9_abs_0f7a4 9 = .ok (.iload_n 0, 1) := by decide +kernel
theorem dJ9_abs_0f7a4_10 : decode cJ9_abs_0f7a4 10 = .ok (.ireturn, 1) := by decide +kernel
theorem dJ9_abs_067f4_0 : decode cJ9_abs_067f4 0 = .ok (.lload_n 0, 1) := by decide +kernel
theorem dJ9_abs_067f4_1 : decode cJ9_abs_067f4 1 = .ok (.lconst 0, 1) := by decide +kernel
theorem dJ9_abs_067f4_2 : decode cJ9_abs_067f4 2 = .ok (.lcmp, 1) := by decide +kernel
theorem dJ9_abs_067f4_3 : decode cJ9_abs_067f4 3 = .ok (.ifCond .ge 8, 3) := by decide +kernel
theorem dJ9_abs_067f4_6 : decode cJ9_abs_067f4 6 = .ok (.lload_n 0, 1) := by decide +kernel
theorem dJ9_abs_067f4_7 : decode cJ9_abs_067f4 7 = .ok (.lneg, 1) := by decide +kernel
theorem dJ9_abs_067f4_8 : decode cJ9_abs_067f4 8 = .ok (.goto 4, 3) := by decide +kernel
theorem dJ9_abs_067f4_11 : decode cJ9_abs_067f4 11 = .ok (.lload_n 0, 1) := by decide +kernel
theorem dJ9_abs_067f4_12 : decode cJ9_abs_067f4 12 = .ok (.lreturn, 1) := by decide +kernel
theorem dJ9_max_7cf53_0 : decode cJ9_max_7cf53 0 = .ok (.iload_n 0, 1) := by decide +kernel
theorem dJ9_max_7cf53_1 : decode cJ9_max_7cf53 1 = .ok (.iload_n 1, 1) := by decide +kernel
theorem dJ9_max_7cf53_2 : decode cJ9_max_7cf53 2 = .ok (.if_icmp .lt 7, 3) := by decide +kernel
theorem dJ9_max_7cf53_5 : decode cJ9_max_7cf53 5 = .ok (.iload_n 0, 1) := by decide +kernel
theorem dJ9_max_7cf53_6 : decode cJ9_max_7cf53 6 = .ok (.goto 4, 3) := by decide +kernel
theorem dJ9_max_7cf53_9 : decode cJ9_max_7cf53 9 = .ok (.iload_n 1, 1) := by decide +kernel
theorem dJ9_max_7cf53_10 : decode cJ9_max_7cf53 10 = .ok (.ireturn, 1) := by decide +kernel
theorem dJ9_min_7cf53_0 : decode cJ9_min_7cf53 0 = .ok (.iload_n 0, 1) := by decide +kernel
theorem dJ9_min_7cf53_1 : decode cJ9_min_7cf53 1 = .ok (.iload_n 1, 1) := by decide +kernel
theorem dJ9_min_7cf53_2 : decode cJ9_min_7cf53 2 = .ok (.if_icmp .gt 7, 3) := by decide +kernel
theorem dJ9_min_7cf53_5 : decode cJ9_min_7cf53 5 = .ok (.iload_n 0, 1) := by decide +kernel
theorem dJ9_min_7cf53_6 : decode cJ9_min_7cf53 6 = .ok (.goto 4, 3) := by decide +kernel
theorem dJ9_min_7cf53_9 : decode cJ9_min_7cf53 9 = .ok (.iload_n 1, 1) := by decide +kernel
theorem dJ9_min_7cf53_10 : decode cJ9_min_7cf53 10 = .ok (.ireturn, 1) := by decide +kernel
theorem dJ0_length_8abf5_0 : decode cJ0_length_8abf5 0 = .ok (.aload_n 0, 1) := by decide +kernel
theorem dJ0_length_8abf5_1 : decode cJ0_length_8abf5 1 = .ok (.getfield 9, 3) := by decide +kernel
theorem dJ0_length_8abf5_4 : decode cJ0_length_8abf5 4 = .ok (.arraylength, 1) := by decide +kernel
theorem dJ0_length_8abf5_5 : decode cJ0_length_8abf5 5 = .ok (.aload_n 0, 1) := by decide +kernel
theorem dJ0_length_8abf5_6 : decode cJ0_length_8abf5 6 = .ok (.invokevirtual 335, 3) := by decide +kernel
theorem dJ0_length_8abf5_9 : decode cJ0_length_8abf5 9 = .ok (.ishr, 1) := by decide +kernel
theorem dJ0_length_8abf5_10 : decode cJ0_length_8abf5 10 = .ok (.ireturn, 1) := by decide +kernel
theorem dJ0_charAt_5068e_0 : decode cJ0_charAt_5068e 0 = .ok (.aload_n 0, 1) := by decide +kernel
theorem dJ0_charAt_5068e_1 : decode cJ0_charAt_5068e 1 = .ok (.invokevirtual 492, 3) := by decide +kernel
theorem dJ0_charAt_5068e_4 : decode cJ0_charAt_5068e 4 = .ok (.ifCond .eq 12, 3) := by decide +kernel
theorem dJ0_charAt_5068e_7 : decode cJ0_charAt_5068e 7 = .ok (.aload_n 0, 1) := by decide +kernel
theorem dJ0_charAt_5068e_8 : decode cJ0_charAt_5068e 8 = .ok (.getfield 9, 3) := by decide +kernel
theorem dJ0_charAt_5068e_11 : decode cJ0_charAt_5068e 11 = .ok (.iload_n 1, 1) := by decide +kernel
theorem dJ0_charAt_5068e_12 : decode cJ0_charAt_5068e 12 = .ok (.invokestatic 495, 3) := by decide +kernel
theorem dJ0_charAt_5068e_15 : decode cJ0_charAt_5068e 15 = .ok (.ireturn, 1) := by decide +kernel
theorem dJ0_charAt_5068e_16 : decode cJ0_charAt_5068e 16 = .ok (.aload_n 0, 1) := by decide +kernel
theorem dJ0_charAt_5068e_17 : decode cJ0_charAt_5068e 17 = .ok (.getfield 9, 3) := by decide +kernel
theorem dJ0_charAt_5068e_20 : decode cJ0_charAt_5068e 20 = .ok (.iload_n 1, 1) := by decide +kernel
theorem dJ0_charAt_5068e_21 : decode cJ0_charAt_5068e 21 = .ok (.invokestatic 498, 3) := by decide +kernel
theorem dJ0_charAt_5068e_24 : decode cJ0_charAt_5068e 24 = .ok (.ireturn, 1) := by decide +kernel
theorem dJ0_coder_7d493_0 : decode cJ0_coder_7d493 0 = .ok (.getstatic 38, 3) := by decide +kernel
theorem dJ0_coder_7d493_3 : decode cJ0_coder_7d493 3 = .ok (.ifCond .eq 10, 3) := by decide +kernel
theorem dJ0_coder_7d493_6 : decode cJ0_coder_7d493 6 = .ok (.aload_n 0, 1) := by decide +kernel
theorem dJ0_coder_7d493_7 : decode cJ0_coder_7d493 7 = .ok (.getfield 15, 3) := by decide +kernel
theorem dJ0_coder_7d493_10 : decode cJ0_coder_7d493 10 = .ok (.goto 4, 3) := by decide +kernel
theorem dJ0_coder_7d493_13 : decode cJ0_coder_7d493 13 = .ok (.iconst 1, 1) := by decide +kernel
theorem dJ0_coder_7d493_14 : decode cJ0_coder_7d493 14 = .ok (.ireturn, 1) := by decide +kernel
theorem dJ0_isLatin1_aae02_0 : decode cJ0_isLatin1_aae02 0 = .ok (.getstatic 38, 3) := by decide +kernel
theorem dJ0_isLatin1_aae02_3 : decode cJ0_isLatin1_aae02 3 = .ok (.ifCond .eq 14, 3) := by decide +kernel
theorem dJ0_isLatin1_aae02_6 : decode cJ0_isLatin1_aae02 6 = .ok (.aload_n 0, 1) := by decide +kernel
theorem dJ0_isLatin1_aae02_7 : decode cJ0_isLatin1_aae02 7 = .ok (.getfield 15, 3) := by decide +kernel
theorem dJ0_isLatin1_aae02_10 : decode cJ0_isLatin1_aae02 10 = .ok (.ifCond .ne 7, 3) := by decide +kernel
theorem dJ0_isLatin1_aae02_13 : decode cJ0_isLatin1_aae02 13 = .ok (.iconst 1, 1) := by decide +kernel
theorem dJ0_isLatin1_aae02_14 : decode cJ0_isLatin1_aae02 14 = .ok (.goto 4, 3) := by decide +kernel
theorem dJ0_isLatin1_aae02_17 : decode cJ0_isLatin1_aae02 17 = .ok (.iconst 0, 1) := by decide +kernel
theorem dJ0_isLatin1_aae02_18 : decode cJ0_isLatin1_aae02 18 = .ok (.ireturn, 1) := by decide +kernel
theorem dJ0_checkIndex_df160_0 : decode cJ0_checkIndex_df160 0 = .ok (.iload_n 0, 1) := by decide +kernel
theorem dJ0_checkIndex_df160_1 : decode cJ0_checkIndex_df160 1 = .ok (.iload_n 1, 1) := by decide +kernel
theorem dJ0_checkIndex_df160_2 : decode cJ0_checkIndex_df160 2 = .ok (.getstatic 1053, 3) := by decide +kernel
theorem dJ0_checkIndex_df160_5 : decode cJ0_checkIndex_df160 5 = .ok (.invokestatic 1059, 3) := by decide +kernel
theorem dJ0_checkIndex_df160_8 : decode cJ0_checkIndex_df160 8 = .ok (.pop, 1) := by decide +kernel
theorem dJ0_checkIndex_df160_9 : decode cJ0_checkIndex_df160 9 = .ok (.return_, 1) := by decide +kernel
theorem dJ1_charAt_3b067_0 : decode cJ1_charAt_3b067 0 = .ok (.iload_n 1, 1) := by decide +kernel
theorem dJ1_charAt_3b067_1 : decode cJ1_charAt_3b067 1 = .ok (.aload_n 0, 1) := by decide +kernel
theorem dJ1_charAt_3b067_2 : decode cJ1_charAt_3b067 2 = .ok (.arraylength, 1) := by decide +kernel
theorem dJ1_charAt_3b067_3 : decode cJ1_charAt_3b067 3 = .ok (.invokestatic 9, 3) := by decide +kernel
theorem dJ1_charAt_3b067_6 : decode cJ1_charAt_3b067 6 = .ok (.aload_n 0, 1) := by decide +kernel
theorem dJ1_charAt_3b067_7 : decode cJ1_charAt_3b067 7 = .ok (.iload_n 1, 1) := by decide +kernel
theorem dJ1_charAt_3b067_8 : decode cJ1_charAt_3b067 8 = .ok (.baload, 1) := by decide +kernel
theorem dJ1_charAt_3b067_9 : decode cJ1_charAt_3b067 9 = .ok (.sipush 255, 3) := by decide +kernel
theorem dJ1_charAt_3b067_12 : decode cJ1_charAt_3b067 12 = .ok (.iand, 1) := by decide +kernel
theorem dJ1_charAt_3b067_13 : decode cJ1_charAt_3b067 13 = .ok (.i2c, 1) := by decide +kernel
theorem dJ1_charAt_3b067_14 : decode cJ1_charAt_3b067 14 = .ok (.ireturn, 1) := by decide +kernel
theorem dJ2_getChar_3b067_0 : decode cJ2_getChar_3b067 0 = .ok (.getstatic 44, 3) := by decide +kernel
theorem dJ2_getChar_3b067_3 : decode cJ2_getChar_3b067 3 = .ok (.ifCond .ne 25, 3) := by decide +kernel
theorem dJ2_getChar_3b067_6 : decode cJ2_getChar_3b067 6 = .ok (.iload_n 1, 1) := by decide +kernel
theorem dJ2_getChar_3b067_7 : decode cJ2_getChar_3b067 7 = .ok (.ifCond .lt 11, 3) := by decide +kernel
theorem dJ2_getChar_3b067_10 : decode cJ2_getChar_3b067 10 = .ok (.iload_n 1, 1) := by decide +kernel
theorem dJ2_getChar_3b067_11 : decode cJ2_getChar_3b067 11 = .ok (.aload_n 0, 1) := by decide +kernel
theorem dJ2_getChar_3b067_12 : decode cJ2_getChar_3b067 12 = .ok (.invokestatic 48, 3) := by decide +kernel
theorem dJ2_getChar_3b067_15 : decode cJ2_getChar_3b067 15 = .ok (.if_icmp .lt 13, 3) := by decide +kernel
theorem dJ2_getChar_3b067_18 : decode cJ2_getChar_3b067 18 = .ok (.new 52, 3) := by decide +kernel
theorem dJ2_getChar_3b067_21 : decode cJ2_getChar_3b067 21 = .ok (.dup, 1) := by decide +kernel
theorem dJ2_getChar_3b067_22 : decode cJ2_getChar_3b067 22 = .ok (.ldc 54, 2) := by decide +kernel
theorem dJ2_getChar_3b067_24 : decode cJ2_getChar_3b067 24 = .ok (.invokespecial 56, 3) := by decide +kernel
theorem dJ2_getChar_3b067_27 : decode cJ2_getChar_3b067 27 = .ok (.athrow, 1) := by decide +kernel
theorem dJ2_getChar_3b067_28 : decode cJ2_getChar_3b067 28 = .ok (.iload_n 1, 1) := by decide +kernel
theorem dJ2_getChar_3b067_29 : decode cJ2_getChar_3b067 29 = .ok (.iconst 1, 1) := by decide +kernel
theorem dJ2_getChar_3b067_30 : decode cJ2_getChar_3b067 30 = .ok (.ishl, 1) := by decide +kernel
theorem dJ2_getChar_3b067_31 : decode cJ2_getChar_3b067 31 = .ok (.istore_n 1, 1) := by decide +kernel
theorem dJ2_getChar_3b067_32 : decode cJ2_getChar_3b067 32 = .ok (.aload_n 0, 1) := by decide +kernel
theorem dJ2_getChar_3b067_33 : decode cJ2_getChar_3b067 33 = .ok (.iload_n 1, 1) := by decide +kernel
theorem dJ2_getChar_3b067_34 : decode cJ2_getChar_3b067 34 = .ok (.iinc 1 1, 3) := by decide +kernel
theorem dJ2_getChar_3b067_37 : decode cJ2_getChar_3b067 37 = .ok (.baload, 1) := by decide +kernel
theorem dJ2_getChar_3b067_38 : decode cJ2_getChar_3b067 38 = .ok (.sipush 255, 3) := by decide +kernel
theorem dJ2_getChar_3b067_41 : decode cJ2_getChar_3b067 41 = .ok (.iand, 1) := by decide +kernel
theorem dJ2_getChar_3b067_42 : decode cJ2_getChar_3b067 42 = .ok (.getstatic 59, 3) := by decide +kernel
theorem dJ2_getChar_3b067_45 : decode cJ2_getChar_3b067 45 = .ok (.ishl, 1) := by decide +kernel
theorem dJ2_getChar_3b067_46 : decode cJ2_getChar_3b067 46 = .ok (.aload_n 0, 1) := by decide +kernel
theorem dJ2_getChar_3b067_47 : decode cJ2_getChar_3b067 47 = .ok (.iload_n 1, 1) := by decide +kernel
theorem dJ2_getChar_3b067_48 : decode cJ2_getChar_3b067 48 = .ok (.baload, 1) := by decide +kernel
theorem dJ2_getChar_3b067_49 : decode cJ2_getChar_3b067 49 = .ok (.sipush 255, 3) := by decide +kernel
theorem dJ2_getChar_3b067_52 : decode cJ2_getChar_3b067 52 = .ok (.iand, 1) := by decide +kernel
theorem dJ2_getChar_3b067_53 : decode cJ2_getChar_3b067 53 = .ok (.getstatic 63, 3) := by decide +kernel
theorem dJ2_getChar_3b067_56 : decode cJ2_getChar_3b067 56 = .ok (.ishl, 1) := by decide +kernel
theorem dJ2_getChar_3b067_57 : decode cJ2_getChar_3b067 57 = .ok (.ior, 1) := by decide +kernel
theorem dJ2_getChar_3b067_58 : decode cJ2_getChar_3b067 58 = .ok (.i2c, 1) := by decide +kernel
theorem dJ2_getChar_3b067_59 : decode cJ2_getChar_3b067 59 = .ok (.ireturn, 1) := by decide +kernel
theorem dJ2_length_9d52b_0 : decode cJ2_length_9d52b 0 = .ok (.aload_n 0, 1) := by decide +kernel
theorem dJ2_length_9d52b_1 : decode cJ2_length_9d52b 1 = .ok (.arraylength, 1) := by decide +kernel
theorem dJ2_length_9d52b_2 : decode cJ2_length_9d52b 2 = .ok (.iconst 1, 1) := by decide +kernel
theorem dJ2_length_9d52b_3 : decode cJ2_length_9d52b 3 = .ok (.ishr, 1) := by decide +kernel
theorem dJ2_length_9d52b_4 : decode cJ2_length_9d52b 4 = .ok (.ireturn, 1) := by decide +kernel
theorem dJ2_charAt_3b067_0 : decode cJ2_charAt_3b067 0 = .ok (.iload_n 1, 1) := by decide +kernel
theorem dJ2_charAt_3b067_1 : decode cJ2_charAt_3b067 1 = .ok (.aload_n 0, 1) := by decide +kernel
theorem dJ2_charAt_3b067_2 : decode cJ2_charAt_3b067 2 = .ok (.invokestatic 67, 3) := by decide +kernel
theorem dJ2_charAt_3b067_5 : decode cJ2_charAt_3b067 5 = .ok (.aload_n 0, 1) := by decide +kernel
theorem dJ2_charAt_3b067_6 : decode cJ2_charAt_3b067 6 = .ok (.iload_n 1, 1) := by decide +kernel
theorem dJ2_charAt_3b067_7 : decode cJ2_charAt_3b067 7 = .ok (.invokestatic 71, 3) := by decide +kernel
theorem dJ2_charAt_3b067_10 : decode cJ2_charAt_3b067 10 = .ok (.ireturn, 1) := by decide +kernel
theorem dJ2_checkIndex_2214a_0 : decode cJ2_checkIndex_2214a 0 = .ok (.iload_n 0, 1) := by decide +kernel
theorem dJ2_checkIndex_2214a_1 : decode cJ2_checkIndex_2214a 1 = .ok (.aload_n 1, 1) := by decide +kernel
theorem dJ2_checkIndex_2214a_2 : decode cJ2_checkIndex_2214a 2 = .ok (.invokestatic 48, 3) := by decide +kernel
theorem dJ2_checkIndex_2214a_5 : decode cJ2_checkIndex_2214a 5 = .ok (.invokestatic 414, 3) := by decide +kernel
theorem dJ2_checkIndex_2214a_8 : decode cJ2_checkIndex_2214a 8 = .ok (.return_, 1) := by decide +kernel
theorem dJ7_fill_53178_0 : decode cJ7_fill_53178 0 = .ok (.iconst 0, 1) := by decide +kernel
theorem dJ7_fill_53178_1 : decode cJ7_fill_53178 1 = .ok (.istore_n 2, 1) := by decide +kernel
theorem dJ7_fill_53178_2 : decode cJ7_fill_53178 2 = .ok (.aload_n 0, 1) := by decide +kernel
theorem dJ7_fill_53178_3 : decode cJ7_fill_53178 3 = .ok (.arraylength, 1) := by decide +kernel
theorem dJ7_fill_53178_4 : decode cJ7_fill_53178 4 = .ok (.istore_n 3, 1) := by decide +kernel
theorem dJ7_fill_53178_5 : decode cJ7_fill_53178 5 = .ok (.iload_n 2, 1) := by decide +kernel
theorem dJ7_fill_53178_6 : decode cJ7_fill_53178 6 = .ok (.iload_n 3, 1) := by decide +kernel
theorem dJ7_fill_53178_7 : decode cJ7_fill_53178 7 = .ok (.if_icmp .ge 13, 3) := by decide +kernel
theorem dJ7_fill_53178_10 : decode cJ7_fill_53178 10 = .ok (.aload_n 0, 1) := by decide +kernel
theorem dJ7_fill_53178_11 : decode cJ7_fill_53178 11 = .ok (.iload_n 2, 1) := by decide +kernel
theorem dJ7_fill_53178_12 : decode cJ7_fill_53178 12 = .ok (.iload_n 1, 1) := by decide +kernel
theorem dJ7_fill_53178_13 : decode cJ7_fill_53178 13 = .ok (.iastore, 1) := by decide +kernel
theorem dJ7_fill_53178_14 : decode cJ7_fill_53178 14 = .ok (.iinc 2 1, 3) := by decide +kernel
theorem dJ7_fill_53178_17 : decode cJ7_fill_53178 17 = .ok (.goto (-12), 3) := by decide +kernel
theorem dJ7_fill_53178_20 : decode cJ7_fill_53178 20 = .ok (.return_, 1) := by decide +kernel
theorem dJ3_checkIndex_8e157_0 : decode cJ3_checkIndex_8e157 0 = .ok (.iload_n 0, 1) := by decide +kernel
theorem dJ3_checkIndex_8e157_1 : decode cJ3_checkIndex_8e157 1 = .ok (.ifCond .lt 8, 3) := by decide +kernel
theorem dJ3_checkIndex_8e157_4 : decode cJ3_checkIndex_8e157 4 = .ok (.iload_n 0, 1) := by decide +kernel
theorem dJ3_checkIndex_8e157_5 : decode cJ3_checkIndex_8e157 5 = .ok (.iload_n 1, 1) := by decide +kernel
theorem dJ3_checkIndex_8e157_6 : decode cJ3_checkIndex_8e157 6 = .ok (.if_icmp .lt 10, 3) := by decide +kernel
theorem dJ3_checkIndex_8e157_9 : decode cJ3_checkIndex_8e157 9 = .ok (.aload_n 2, 1) := by decide +kernel
theorem dJ3_checkIndex_8e157_10 : decode cJ3_checkIndex_8e157 10 = .ok (.iload_n 0, 1) := by decide +kernel
theorem dJ3_checkIndex_8e157_11 : decode cJ3_checkIndex_8e157 11 = .ok (.iload_n 1, 1) := by decide +kernel
theorem dJ3_checkIndex_8e157_12 : decode cJ3_checkIndex_8e157 12 = .ok (.invokestatic 95, 3) := by decide +kernel
theorem dJ3_checkIndex_8e157_15 : decode cJ3_checkIndex_8e157 15 = .ok (.athrow, 1) := by decide +kernel
theorem dJ3_checkIndex_8e157_16 : decode cJ3_checkIndex_8e157 16 = .ok (.iload_n 0, 1) := by decide +kernel
theorem dJ3_checkIndex_8e157_17 : decode cJ3_checkIndex_8e157 17 = .ok (.ireturn, 1) := by decide +kernel
theorem dL_book_0 : decode cL_book 0 = .ok (.aload_n 3, 1) := by decide +kernel
theorem dL_book_1 : decode cL_book 1 = .ok (.iconst 0, 1) := by decide +kernel
theorem dL_book_2 : decode cL_book 2 = .ok (.aload_n 0, 1) := by decide +kernel
theorem dL_book_3 : decode cL_book 3 = .ok (.iload_n 1, 1) := by decide +kernel
theorem dL_book_4 : decode cL_book 4 = .ok (.iload_n 2, 1) := by decide +kernel
theorem dL_book_5 : decode cL_book 5 = .ok (.invokevirtual 7, 3) := by decide +kernel
theorem dL_book_8 : decode cL_book 8 = .ok (.i2l, 1) := by decide +kernel
theorem dL_book_9 : decode cL_book 9 = .ok (.lastore, 1) := by decide +kernel
theorem dL_book_10 : decode cL_book 10 = .ok (.goto 11, 3) := by decide +kernel
theorem dL_book_13 : decode cL_book 13 = .ok (.astore 4, 2) := by decide +kernel
theorem dL_book_15 : decode cL_book 15 = .ok (.iconst 1, 1) := by decide +kernel
theorem dL_book_16 : decode cL_book 16 = .ok (.ireturn, 1) := by decide +kernel
theorem dL_book_17 : decode cL_book 17 = .ok (.astore 4, 2) := by decide +kernel
theorem dL_book_19 : decode cL_book 19 = .ok (.iconst 2, 1) := by decide +kernel
theorem dL_book_20 : decode cL_book 20 = .ok (.ireturn, 1) := by decide +kernel
theorem dL_book_21 : decode cL_book 21 = .ok (.iconst 0, 1) := by decide +kernel
theorem dL_book_22 : decode cL_book 22 = .ok (.ireturn, 1) := by decide +kernel
theorem dL_law_0 : decode cL_law 0 = .ok (.aload_n 2, 1) := by decide +kernel
theorem dL_law_1 : decode cL_law 1 = .ok (.iconst 0, 1) := by decide +kernel
theorem dL_law_2 : decode cL_law 2 = .ok (.aload_n 0, 1) := by decide +kernel
theorem dL_law_3 : decode cL_law 3 = .ok (.iload_n 1, 1) := by decide +kernel
theorem dL_law_4 : decode cL_law 4 = .ok (.invokevirtual 17, 3) := by decide +kernel
theorem dL_law_7 : decode cL_law 7 = .ok (.i2l, 1) := by decide +kernel
theorem dL_law_8 : decode cL_law 8 = .ok (.lastore, 1) := by decide +kernel
theorem dL_law_9 : decode cL_law 9 = .ok (.goto 6, 3) := by decide +kernel
theorem dL_law_12 : decode cL_law 12 = .ok (.astore_n 3, 1) := by decide +kernel
theorem dL_law_13 : decode cL_law 13 = .ok (.iconst 1, 1) := by decide +kernel
theorem dL_law_14 : decode cL_law 14 = .ok (.ireturn, 1) := by decide +kernel
theorem dL_law_15 : decode cL_law 15 = .ok (.iconst 0, 1) := by decide +kernel
theorem dL_law_16 : decode cL_law 16 = .ok (.ireturn, 1) := by decide +kernel
theorem dL_way_0 : decode cL_way 0 = .ok (.aload_n 3, 1) := by decide +kernel
theorem dL_way_1 : decode cL_way 1 = .ok (.iconst 0, 1) := by decide +kernel
theorem dL_way_2 : decode cL_way 2 = .ok (.aload_n 0, 1) := by decide +kernel
theorem dL_way_3 : decode cL_way 3 = .ok (.iload_n 1, 1) := by decide +kernel
theorem dL_way_4 : decode cL_way 4 = .ok (.iload_n 2, 1) := by decide +kernel
theorem dL_way_5 : decode cL_way 5 = .ok (.invokevirtual 21, 3) := by decide +kernel
theorem dL_way_8 : decode cL_way 8 = .ok (.i2l, 1) := by decide +kernel
theorem dL_way_9 : decode cL_way 9 = .ok (.lastore, 1) := by decide +kernel
theorem dL_way_10 : decode cL_way 10 = .ok (.goto 11, 3) := by decide +kernel
theorem dL_way_13 : decode cL_way 13 = .ok (.astore 4, 2) := by decide +kernel
theorem dL_way_15 : decode cL_way 15 = .ok (.iconst 1, 1) := by decide +kernel
theorem dL_way_16 : decode cL_way 16 = .ok (.ireturn, 1) := by decide +kernel
theorem dL_way_17 : decode cL_way 17 = .ok (.astore 4, 2) := by decide +kernel
theorem dL_way_19 : decode cL_way 19 = .ok (.iconst 2, 1) := by decide +kernel
theorem dL_way_20 : decode cL_way 20 = .ok (.ireturn, 1) := by decide +kernel
theorem dL_way_21 : decode cL_way 21 = .ok (.iconst 0, 1) := by decide +kernel
theorem dL_way_22 : decode cL_way 22 = .ok (.ireturn, 1) := by decide +kernel
theorem dL_count_0 : decode cL_count 0 = .ok (.aload_n 2, 1) := by decide +kernel
theorem dL_count_1 : decode cL_count 1 = .ok (.iconst 0, 1) := by decide +kernel
theorem dL_count_2 : decode cL_count 2 = .ok (.aload_n 0, 1) := by decide +kernel
theorem dL_count_3 : decode cL_count 3 = .ok (.iload_n 1, 1) := by decide +kernel
theorem dL_count_4 : decode cL_count 4 = .ok (.invokevirtual 24, 3) := by decide +kernel
theorem dL_count_7 : decode cL_count 7 = .ok (.i2l, 1) := by decide +kernel
theorem dL_count_8 : decode cL_count 8 = .ok (.lastore, 1) := by decide +kernel
theorem dL_count_9 : decode cL_count 9 = .ok (.goto 6, 3) := by decide +kernel
theorem dL_count_12 : decode cL_count 12 = .ok (.astore_n 3, 1) := by decide +kernel
theorem dL_count_13 : decode cL_count 13 = .ok (.iconst 1, 1) := by decide +kernel
theorem dL_count_14 : decode cL_count 14 = .ok (.ireturn, 1) := by decide +kernel
theorem dL_count_15 : decode cL_count 15 = .ok (.iconst 0, 1) := by decide +kernel
theorem dL_count_16 : decode cL_count 16 = .ok (.ireturn, 1) := by decide +kernel
theorem dL_about_0 : decode cL_about 0 = .ok (.aload_n 3, 1) := by decide +kernel
theorem dL_about_1 : decode cL_about 1 = .ok (.iconst 0, 1) := by decide +kernel
theorem dL_about_2 : decode cL_about 2 = .ok (.aload_n 0, 1) := by decide +kernel
theorem dL_about_3 : decode cL_about 3 = .ok (.iload_n 1, 1) := by decide +kernel
theorem dL_about_4 : decode cL_about 4 = .ok (.iload_n 2, 1) := by decide +kernel
theorem dL_about_5 : decode cL_about 5 = .ok (.invokevirtual 27, 3) := by decide +kernel
theorem dL_about_8 : decode cL_about 8 = .ok (.i2l, 1) := by decide +kernel
theorem dL_about_9 : decode cL_about 9 = .ok (.lastore, 1) := by decide +kernel
theorem dL_about_10 : decode cL_about 10 = .ok (.goto 7, 3) := by decide +kernel
theorem dL_about_13 : decode cL_about 13 = .ok (.astore 4, 2) := by decide +kernel
theorem dL_about_15 : decode cL_about 15 = .ok (.iconst 1, 1) := by decide +kernel
theorem dL_about_16 : decode cL_about 16 = .ok (.ireturn, 1) := by decide +kernel
theorem dL_about_17 : decode cL_about 17 = .ok (.iconst 0, 1) := by decide +kernel
theorem dL_about_18 : decode cL_about 18 = .ok (.ireturn, 1) := by decide +kernel
theorem dL_leaf_0 : decode cL_leaf 0 = .ok (.aload 4, 2) := by decide +kernel
theorem dL_leaf_2 : decode cL_leaf 2 = .ok (.iconst 0, 1) := by decide +kernel
theorem dL_leaf_3 : decode cL_leaf 3 = .ok (.aload_n 0, 1) := by decide +kernel
theorem dL_leaf_4 : decode cL_leaf 4 = .ok (.iload_n 1, 1) := by decide +kernel
theorem dL_leaf_5 : decode cL_leaf 5 = .ok (.iload_n 2, 1) := by decide +kernel
theorem dL_leaf_6 : decode cL_leaf 6 = .ok (.iload_n 3, 1) := by decide +kernel
theorem dL_leaf_7 : decode cL_leaf 7 = .ok (.invokevirtual 30, 3) := by decide +kernel
theorem dL_leaf_10 : decode cL_leaf 10 = .ok (.i2l, 1) := by decide +kernel
theorem dL_leaf_11 : decode cL_leaf 11 = .ok (.lastore, 1) := by decide +kernel
theorem dL_leaf_12 : decode cL_leaf 12 = .ok (.goto 7, 3) := by decide +kernel
theorem dL_leaf_15 : decode cL_leaf 15 = .ok (.astore 5, 2) := by decide +kernel
theorem dL_leaf_17 : decode cL_leaf 17 = .ok (.iconst 1, 1) := by decide +kernel
theorem dL_leaf_18 : decode cL_leaf 18 = .ok (.ireturn, 1) := by decide +kernel
theorem dL_leaf_19 : decode cL_leaf 19 = .ok (.iconst 0, 1) := by decide +kernel
theorem dL_leaf_20 : decode cL_leaf 20 = .ok (.ireturn, 1) := by decide +kernel
theorem dL_turnings_0 : decode cL_turnings 0 = .ok (.aload 4, 2) := by decide +kernel
theorem dL_turnings_2 : decode cL_turnings 2 = .ok (.iconst 0, 1) := by decide +kernel
theorem dL_turnings_3 : decode cL_turnings 3 = .ok (.aload_n 0, 1) := by decide +kernel
theorem dL_turnings_4 : decode cL_turnings 4 = .ok (.iload_n 1, 1) := by decide +kernel
theorem dL_turnings_5 : decode cL_turnings 5 = .ok (.iload_n 2, 1) := by decide +kernel
theorem dL_turnings_6 : decode cL_turnings 6 = .ok (.iload_n 3, 1) := by decide +kernel
theorem dL_turnings_7 : decode cL_turnings 7 = .ok (.invokevirtual 34, 3) := by decide +kernel
theorem dL_turnings_10 : decode cL_turnings 10 = .ok (.i2l, 1) := by decide +kernel
theorem dL_turnings_11 : decode cL_turnings 11 = .ok (.lastore, 1) := by decide +kernel
theorem dL_turnings_12 : decode cL_turnings 12 = .ok (.goto 7, 3) := by decide +kernel
theorem dL_turnings_15 : decode cL_turnings 15 = .ok (.astore 5, 2) := by decide +kernel
theorem dL_turnings_17 : decode cL_turnings 17 = .ok (.iconst 1, 1) := by decide +kernel
theorem dL_turnings_18 : decode cL_turnings 18 = .ok (.ireturn, 1) := by decide +kernel
theorem dL_turnings_19 : decode cL_turnings 19 = .ok (.iconst 0, 1) := by decide +kernel
theorem dL_turnings_20 : decode cL_turnings 20 = .ok (.ireturn, 1) := by decide +kernel
theorem dL_reader_0 : decode cL_reader 0 = .ok (.aload 5, 2) := by decide +kernel
theorem dL_reader_2 : decode cL_reader 2 = .ok (.iconst 0, 1) := by decide +kernel
theorem dL_reader_3 : decode cL_reader 3 = .ok (.aload_n 0, 1) := by decide +kernel
theorem dL_reader_4 : decode cL_reader 4 = .ok (.iload_n 1, 1) := by decide +kernel
theorem dL_reader_5 : decode cL_reader 5 = .ok (.iload_n 2, 1) := by decide +kernel
theorem dL_reader_6 : decode cL_reader 6 = .ok (.iload_n 3, 1) := by decide +kernel
theorem dL_reader_7 : decode cL_reader 7 = .ok (.iload 4, 2) := by decide +kernel
theorem dL_reader_9 : decode cL_reader 9 = .ok (.invokevirtual 37, 3) := by decide +kernel
theorem dL_reader_12 : decode cL_reader 12 = .ok (.i2l, 1) := by decide +kernel
theorem dL_reader_13 : decode cL_reader 13 = .ok (.lastore, 1) := by decide +kernel
theorem dL_reader_14 : decode cL_reader 14 = .ok (.goto 7, 3) := by decide +kernel
theorem dL_reader_17 : decode cL_reader 17 = .ok (.astore 6, 2) := by decide +kernel
theorem dL_reader_19 : decode cL_reader 19 = .ok (.iconst 1, 1) := by decide +kernel
theorem dL_reader_20 : decode cL_reader 20 = .ok (.ireturn, 1) := by decide +kernel
theorem dL_reader_21 : decode cL_reader 21 = .ok (.iconst 0, 1) := by decide +kernel
theorem dL_reader_22 : decode cL_reader 22 = .ok (.ireturn, 1) := by decide +kernel
theorem dL_gone_0 : decode cL_gone 0 = .ok (.aload_n 2, 1) := by decide +kernel
theorem dL_gone_1 : decode cL_gone 1 = .ok (.iconst 0, 1) := by decide +kernel
theorem dL_gone_2 : decode cL_gone 2 = .ok (.aload_n 0, 1) := by decide +kernel
theorem dL_gone_3 : decode cL_gone 3 = .ok (.iload_n 1, 1) := by decide +kernel
theorem dL_gone_4 : decode cL_gone 4 = .ok (.invokevirtual 41, 3) := by decide +kernel
theorem dL_gone_7 : decode cL_gone 7 = .ok (.i2l, 1) := by decide +kernel
theorem dL_gone_8 : decode cL_gone 8 = .ok (.lastore, 1) := by decide +kernel
theorem dL_gone_9 : decode cL_gone 9 = .ok (.goto 6, 3) := by decide +kernel
theorem dL_gone_12 : decode cL_gone 12 = .ok (.astore_n 3, 1) := by decide +kernel
theorem dL_gone_13 : decode cL_gone 13 = .ok (.iconst 1, 1) := by decide +kernel
theorem dL_gone_14 : decode cL_gone 14 = .ok (.ireturn, 1) := by decide +kernel
theorem dL_gone_15 : decode cL_gone 15 = .ok (.iconst 0, 1) := by decide +kernel
theorem dL_gone_16 : decode cL_gone 16 = .ok (.ireturn, 1) := by decide +kernel
theorem dL_dirt_0 : decode cL_dirt 0 = .ok (.aload 4, 2) := by decide +kernel
theorem dL_dirt_2 : decode cL_dirt 2 = .ok (.iconst 0, 1) := by decide +kernel
theorem dL_dirt_3 : decode cL_dirt 3 = .ok (.aload_n 0, 1) := by decide +kernel
theorem dL_dirt_4 : decode cL_dirt 4 = .ok (.iload_n 1, 1) := by decide +kernel
theorem dL_dirt_5 : decode cL_dirt 5 = .ok (.iload_n 2, 1) := by decide +kernel
theorem dL_dirt_6 : decode cL_dirt 6 = .ok (.iload_n 3, 1) := by decide +kernel
theorem dL_dirt_7 : decode cL_dirt 7 = .ok (.invokevirtual 44, 3) := by decide +kernel
theorem dL_dirt_10 : decode cL_dirt 10 = .ok (.i2l, 1) := by decide +kernel
theorem dL_dirt_11 : decode cL_dirt 11 = .ok (.lastore, 1) := by decide +kernel
theorem dL_dirt_12 : decode cL_dirt 12 = .ok (.goto 7, 3) := by decide +kernel
theorem dL_dirt_15 : decode cL_dirt 15 = .ok (.astore 5, 2) := by decide +kernel
theorem dL_dirt_17 : decode cL_dirt 17 = .ok (.iconst 1, 1) := by decide +kernel
theorem dL_dirt_18 : decode cL_dirt 18 = .ok (.ireturn, 1) := by decide +kernel
theorem dL_dirt_19 : decode cL_dirt 19 = .ok (.iconst 0, 1) := by decide +kernel
theorem dL_dirt_20 : decode cL_dirt 20 = .ok (.ireturn, 1) := by decide +kernel
theorem dL_drawn_0 : decode cL_drawn 0 = .ok (.aload_n 3, 1) := by decide +kernel
theorem dL_drawn_1 : decode cL_drawn 1 = .ok (.iconst 0, 1) := by decide +kernel
theorem dL_drawn_2 : decode cL_drawn 2 = .ok (.aload_n 0, 1) := by decide +kernel
theorem dL_drawn_3 : decode cL_drawn 3 = .ok (.iload_n 1, 1) := by decide +kernel
theorem dL_drawn_4 : decode cL_drawn 4 = .ok (.iload_n 2, 1) := by decide +kernel
theorem dL_drawn_5 : decode cL_drawn 5 = .ok (.invokevirtual 47, 3) := by decide +kernel
theorem dL_drawn_8 : decode cL_drawn 8 = .ok (.i2l, 1) := by decide +kernel
theorem dL_drawn_9 : decode cL_drawn 9 = .ok (.lastore, 1) := by decide +kernel
theorem dL_drawn_10 : decode cL_drawn 10 = .ok (.goto 7, 3) := by decide +kernel
theorem dL_drawn_13 : decode cL_drawn 13 = .ok (.astore 4, 2) := by decide +kernel
theorem dL_drawn_15 : decode cL_drawn 15 = .ok (.iconst 1, 1) := by decide +kernel
theorem dL_drawn_16 : decode cL_drawn 16 = .ok (.ireturn, 1) := by decide +kernel
theorem dL_drawn_17 : decode cL_drawn 17 = .ok (.iconst 0, 1) := by decide +kernel
theorem dL_drawn_18 : decode cL_drawn 18 = .ok (.ireturn, 1) := by decide +kernel
theorem dL_read_0 : decode cL_read 0 = .ok (.aload 4, 2) := by decide +kernel
theorem dL_read_2 : decode cL_read 2 = .ok (.iconst 0, 1) := by decide +kernel
theorem dL_read_3 : decode cL_read 3 = .ok (.aload_n 0, 1) := by decide +kernel
theorem dL_read_4 : decode cL_read 4 = .ok (.iload_n 1, 1) := by decide +kernel
theorem dL_read_5 : decode cL_read 5 = .ok (.iload_n 2, 1) := by decide +kernel
theorem dL_read_6 : decode cL_read 6 = .ok (.iload_n 3, 1) := by decide +kernel
theorem dL_read_7 : decode cL_read 7 = .ok (.invokevirtual 50, 3) := by decide +kernel
theorem dL_read_10 : decode cL_read 10 = .ok (.ifCond .eq 7, 3) := by decide +kernel
theorem dL_read_13 : decode cL_read 13 = .ok (.lconst 1, 1) := by decide +kernel
theorem dL_read_14 : decode cL_read 14 = .ok (.goto 4, 3) := by decide +kernel
theorem dL_read_17 : decode cL_read 17 = .ok (.lconst 0, 1) := by decide +kernel
theorem dL_read_18 : decode cL_read 18 = .ok (.lastore, 1) := by decide +kernel
theorem dL_read_19 : decode cL_read 19 = .ok (.goto 7, 3) := by decide +kernel
theorem dL_read_22 : decode cL_read 22 = .ok (.astore 5, 2) := by decide +kernel
theorem dL_read_24 : decode cL_read 24 = .ok (.iconst 1, 1) := by decide +kernel
theorem dL_read_25 : decode cL_read 25 = .ok (.ireturn, 1) := by decide +kernel
theorem dL_read_26 : decode cL_read 26 = .ok (.iconst 0, 1) := by decide +kernel
theorem dL_read_27 : decode cL_read 27 = .ok (.ireturn, 1) := by decide +kernel
theorem dL_bounds_0 : decode cL_bounds 0 = .ok (.aload 4, 2) := by decide +kernel
theorem dL_bounds_2 : decode cL_bounds 2 = .ok (.iconst 0, 1) := by decide +kernel
theorem dL_bounds_3 : decode cL_bounds 3 = .ok (.aload_n 0, 1) := by decide +kernel
theorem dL_bounds_4 : decode cL_bounds 4 = .ok (.iload_n 1, 1) := by decide +kernel
theorem dL_bounds_5 : decode cL_bounds 5 = .ok (.iload_n 2, 1) := by decide +kernel
theorem dL_bounds_6 : decode cL_bounds 6 = .ok (.iload_n 3, 1) := by decide +kernel
theorem dL_bounds_7 : decode cL_bounds 7 = .ok (.invokevirtual 54, 3) := by decide +kernel
theorem dL_bounds_10 : decode cL_bounds 10 = .ok (.i2l, 1) := by decide +kernel
theorem dL_bounds_11 : decode cL_bounds 11 = .ok (.lastore, 1) := by decide +kernel
theorem dL_bounds_12 : decode cL_bounds 12 = .ok (.goto 7, 3) := by decide +kernel
theorem dL_bounds_15 : decode cL_bounds 15 = .ok (.astore 5, 2) := by decide +kernel
theorem dL_bounds_17 : decode cL_bounds 17 = .ok (.iconst 1, 1) := by decide +kernel
theorem dL_bounds_18 : decode cL_bounds 18 = .ok (.ireturn, 1) := by decide +kernel
theorem dL_bounds_19 : decode cL_bounds 19 = .ok (.iconst 0, 1) := by decide +kernel
theorem dL_bounds_20 : decode cL_bounds 20 = .ok (.ireturn, 1) := by decide +kernel
theorem dL_light_0 : decode cL_light 0 = .ok (.aload_n 3, 1) := by decide +kernel
theorem dL_light_1 : decode cL_light 1 = .ok (.iconst 0, 1) := by decide +kernel
theorem dL_light_2 : decode cL_light 2 = .ok (.aload_n 0, 1) := by decide +kernel
theorem dL_light_3 : decode cL_light 3 = .ok (.iload_n 1, 1) := by decide +kernel
theorem dL_light_4 : decode cL_light 4 = .ok (.iload_n 2, 1) := by decide +kernel
theorem dL_light_5 : decode cL_light 5 = .ok (.invokevirtual 57, 3) := by decide +kernel
theorem dL_light_8 : decode cL_light 8 = .ok (.i2l, 1) := by decide +kernel
theorem dL_light_9 : decode cL_light 9 = .ok (.lastore, 1) := by decide +kernel
theorem dL_light_10 : decode cL_light 10 = .ok (.goto 7, 3) := by decide +kernel
theorem dL_light_13 : decode cL_light 13 = .ok (.astore 4, 2) := by decide +kernel
theorem dL_light_15 : decode cL_light 15 = .ok (.iconst 1, 1) := by decide +kernel
theorem dL_light_16 : decode cL_light 16 = .ok (.ireturn, 1) := by decide +kernel
theorem dL_light_17 : decode cL_light 17 = .ok (.iconst 0, 1) := by decide +kernel
theorem dL_light_18 : decode cL_light 18 = .ok (.ireturn, 1) := by decide +kernel
theorem dL_sleepy_0 : decode cL_sleepy 0 = .ok (.aload_n 3, 1) := by decide +kernel
theorem dL_sleepy_1 : decode cL_sleepy 1 = .ok (.iconst 0, 1) := by decide +kernel
theorem dL_sleepy_2 : decode cL_sleepy 2 = .ok (.aload_n 0, 1) := by decide +kernel
theorem dL_sleepy_3 : decode cL_sleepy 3 = .ok (.iload_n 1, 1) := by decide +kernel
theorem dL_sleepy_4 : decode cL_sleepy 4 = .ok (.iload_n 2, 1) := by decide +kernel
theorem dL_sleepy_5 : decode cL_sleepy 5 = .ok (.invokevirtual 60, 3) := by decide +kernel
theorem dL_sleepy_8 : decode cL_sleepy 8 = .ok (.i2l, 1) := by decide +kernel
theorem dL_sleepy_9 : decode cL_sleepy 9 = .ok (.lastore, 1) := by decide +kernel
theorem dL_sleepy_10 : decode cL_sleepy 10 = .ok (.goto 7, 3) := by decide +kernel
theorem dL_sleepy_13 : decode cL_sleepy 13 = .ok (.astore 4, 2) := by decide +kernel
theorem dL_sleepy_15 : decode cL_sleepy 15 = .ok (.iconst 1, 1) := by decide +kernel
theorem dL_sleepy_16 : decode cL_sleepy 16 = .ok (.ireturn, 1) := by decide +kernel
theorem dL_sleepy_17 : decode cL_sleepy 17 = .ok (.iconst 0, 1) := by decide +kernel
theorem dL_sleepy_18 : decode cL_sleepy 18 = .ok (.ireturn, 1) := by decide +kernel
theorem dL_humps_0 : decode cL_humps 0 = .ok (.aload_n 3, 1) := by decide +kernel
theorem dL_humps_1 : decode cL_humps 1 = .ok (.iconst 0, 1) := by decide +kernel
theorem dL_humps_2 : decode cL_humps 2 = .ok (.aload_n 0, 1) := by decide +kernel
theorem dL_humps_3 : decode cL_humps 3 = .ok (.iload_n 1, 1) := by decide +kernel
theorem dL_humps_4 : decode cL_humps 4 = .ok (.iload_n 2, 1) := by decide +kernel
theorem dL_humps_5 : decode cL_humps 5 = .ok (.invokevirtual 63, 3) := by decide +kernel
theorem dL_humps_8 : decode cL_humps 8 = .ok (.lastore, 1) := by decide +kernel
theorem dL_humps_9 : decode cL_humps 9 = .ok (.goto 7, 3) := by decide +kernel
theorem dL_humps_12 : decode cL_humps 12 = .ok (.astore 4, 2) := by decide +kernel
theorem dL_humps_14 : decode cL_humps 14 = .ok (.iconst 1, 1) := by decide +kernel
theorem dL_humps_15 : decode cL_humps 15 = .ok (.ireturn, 1) := by decide +kernel
theorem dL_humps_16 : decode cL_humps 16 = .ok (.iconst 0, 1) := by decide +kernel
theorem dL_humps_17 : decode cL_humps 17 = .ok (.ireturn, 1) := by decide +kernel
theorem dL_hump_0 : decode cL_hump 0 = .ok (.aload 4, 2) := by decide +kernel
theorem dL_hump_2 : decode cL_hump 2 = .ok (.iconst 0, 1) := by decide +kernel
theorem dL_hump_3 : decode cL_hump 3 = .ok (.aload_n 0, 1) := by decide +kernel
theorem dL_hump_4 : decode cL_hump 4 = .ok (.iload_n 1, 1) := by decide +kernel
theorem dL_hump_5 : decode cL_hump 5 = .ok (.iload_n 2, 1) := by decide +kernel
theorem dL_hump_6 : decode cL_hump 6 = .ok (.iload_n 3, 1) := by decide +kernel
theorem dL_hump_7 : decode cL_hump 7 = .ok (.invokevirtual 67, 3) := by decide +kernel
theorem dL_hump_10 : decode cL_hump 10 = .ok (.i2l, 1) := by decide +kernel
theorem dL_hump_11 : decode cL_hump 11 = .ok (.lastore, 1) := by decide +kernel
theorem dL_hump_12 : decode cL_hump 12 = .ok (.goto 7, 3) := by decide +kernel
theorem dL_hump_15 : decode cL_hump 15 = .ok (.astore 5, 2) := by decide +kernel
theorem dL_hump_17 : decode cL_hump 17 = .ok (.iconst 1, 1) := by decide +kernel
theorem dL_hump_18 : decode cL_hump 18 = .ok (.ireturn, 1) := by decide +kernel
theorem dL_hump_19 : decode cL_hump 19 = .ok (.iconst 0, 1) := by decide +kernel
theorem dL_hump_20 : decode cL_hump 20 = .ok (.ireturn, 1) := by decide +kernel
theorem dL_fitted_0 : decode cL_fitted 0 = .ok (.aload 4, 2) := by decide +kernel
theorem dL_fitted_2 : decode cL_fitted 2 = .ok (.iconst 0, 1) := by decide +kernel
theorem dL_fitted_3 : decode cL_fitted 3 = .ok (.aload_n 0, 1) := by decide +kernel
theorem dL_fitted_4 : decode cL_fitted 4 = .ok (.iload_n 1, 1) := by decide +kernel
theorem dL_fitted_5 : decode cL_fitted 5 = .ok (.iload_n 2, 1) := by decide +kernel
theorem dL_fitted_6 : decode cL_fitted 6 = .ok (.iload_n 3, 1) := by decide +kernel
theorem dL_fitted_7 : decode cL_fitted 7 = .ok (.invokevirtual 70, 3) := by decide +kernel
theorem dL_fitted_10 : decode cL_fitted 10 = .ok (.i2l, 1) := by decide +kernel
theorem dL_fitted_11 : decode cL_fitted 11 = .ok (.lastore, 1) := by decide +kernel
theorem dL_fitted_12 : decode cL_fitted 12 = .ok (.goto 7, 3) := by decide +kernel
theorem dL_fitted_15 : decode cL_fitted 15 = .ok (.astore 5, 2) := by decide +kernel
theorem dL_fitted_17 : decode cL_fitted 17 = .ok (.iconst 1, 1) := by decide +kernel
theorem dL_fitted_18 : decode cL_fitted 18 = .ok (.ireturn, 1) := by decide +kernel
theorem dL_fitted_19 : decode cL_fitted 19 = .ok (.iconst 0, 1) := by decide +kernel
theorem dL_fitted_20 : decode cL_fitted 20 = .ok (.ireturn, 1) := by decide +kernel
theorem dL_years_0 : decode cL_years 0 = .ok (.aload_n 2, 1) := by decide +kernel
theorem dL_years_1 : decode cL_years 1 = .ok (.iconst 0, 1) := by decide +kernel
theorem dL_years_2 : decode cL_years 2 = .ok (.aload_n 0, 1) := by decide +kernel
theorem dL_years_3 : decode cL_years 3 = .ok (.iload_n 1, 1) := by decide +kernel
theorem dL_years_4 : decode cL_years 4 = .ok (.invokevirtual 73, 3) := by decide +kernel
theorem dL_years_7 : decode cL_years 7 = .ok (.i2l, 1) := by decide +kernel
theorem dL_years_8 : decode cL_years 8 = .ok (.lastore, 1) := by decide +kernel
theorem dL_years_9 : decode cL_years 9 = .ok (.goto 6, 3) := by decide +kernel
theorem dL_years_12 : decode cL_years 12 = .ok (.astore_n 3, 1) := by decide +kernel
theorem dL_years_13 : decode cL_years 13 = .ok (.iconst 1, 1) := by decide +kernel
theorem dL_years_14 : decode cL_years 14 = .ok (.ireturn, 1) := by decide +kernel
theorem dL_years_15 : decode cL_years 15 = .ok (.iconst 0, 1) := by decide +kernel
theorem dL_years_16 : decode cL_years 16 = .ok (.ireturn, 1) := by decide +kernel
theorem dL_whose_0 : decode cL_whose 0 = .ok (.aload_n 2, 1) := by decide +kernel
theorem dL_whose_1 : decode cL_whose 1 = .ok (.iconst 0, 1) := by decide +kernel
theorem dL_whose_2 : decode cL_whose 2 = .ok (.aload_n 0, 1) := by decide +kernel
theorem dL_whose_3 : decode cL_whose 3 = .ok (.iload_n 1, 1) := by decide +kernel
theorem dL_whose_4 : decode cL_whose 4 = .ok (.invokevirtual 76, 3) := by decide +kernel
theorem dL_whose_7 : decode cL_whose 7 = .ok (.i2l, 1) := by decide +kernel
theorem dL_whose_8 : decode cL_whose 8 = .ok (.lastore, 1) := by decide +kernel
theorem dL_whose_9 : decode cL_whose 9 = .ok (.goto 6, 3) := by decide +kernel
theorem dL_whose_12 : decode cL_whose 12 = .ok (.astore_n 3, 1) := by decide +kernel
theorem dL_whose_13 : decode cL_whose 13 = .ok (.iconst 1, 1) := by decide +kernel
theorem dL_whose_14 : decode cL_whose 14 = .ok (.ireturn, 1) := by decide +kernel
theorem dL_whose_15 : decode cL_whose 15 = .ok (.iconst 0, 1) := by decide +kernel
theorem dL_whose_16 : decode cL_whose 16 = .ok (.ireturn, 1) := by decide +kernel
theorem dL_order_0 : decode cL_order 0 = .ok (.aload_n 3, 1) := by decide +kernel
theorem dL_order_1 : decode cL_order 1 = .ok (.iconst 0, 1) := by decide +kernel
theorem dL_order_2 : decode cL_order 2 = .ok (.aload_n 0, 1) := by decide +kernel
theorem dL_order_3 : decode cL_order 3 = .ok (.iload_n 1, 1) := by decide +kernel
theorem dL_order_4 : decode cL_order 4 = .ok (.iload_n 2, 1) := by decide +kernel
theorem dL_order_5 : decode cL_order 5 = .ok (.invokevirtual 79, 3) := by decide +kernel
theorem dL_order_8 : decode cL_order 8 = .ok (.i2l, 1) := by decide +kernel
theorem dL_order_9 : decode cL_order 9 = .ok (.lastore, 1) := by decide +kernel
theorem dL_order_10 : decode cL_order 10 = .ok (.goto 7, 3) := by decide +kernel
theorem dL_order_13 : decode cL_order 13 = .ok (.astore 4, 2) := by decide +kernel
theorem dL_order_15 : decode cL_order 15 = .ok (.iconst 1, 1) := by decide +kernel
theorem dL_order_16 : decode cL_order 16 = .ok (.ireturn, 1) := by decide +kernel
theorem dL_order_17 : decode cL_order 17 = .ok (.iconst 0, 1) := by decide +kernel
theorem dL_order_18 : decode cL_order 18 = .ok (.ireturn, 1) := by decide +kernel
theorem dL_falls_0 : decode cL_falls 0 = .ok (.aload_n 3, 1) := by decide +kernel
theorem dL_falls_1 : decode cL_falls 1 = .ok (.iconst 0, 1) := by decide +kernel
theorem dL_falls_2 : decode cL_falls 2 = .ok (.aload_n 0, 1) := by decide +kernel
theorem dL_falls_3 : decode cL_falls 3 = .ok (.iload_n 1, 1) := by decide +kernel
theorem dL_falls_4 : decode cL_falls 4 = .ok (.iload_n 2, 1) := by decide +kernel
theorem dL_falls_5 : decode cL_falls 5 = .ok (.invokevirtual 82, 3) := by decide +kernel
theorem dL_falls_8 : decode cL_falls 8 = .ok (.i2l, 1) := by decide +kernel
theorem dL_falls_9 : decode cL_falls 9 = .ok (.lastore, 1) := by decide +kernel
theorem dL_falls_10 : decode cL_falls 10 = .ok (.goto 7, 3) := by decide +kernel
theorem dL_falls_13 : decode cL_falls 13 = .ok (.astore 4, 2) := by decide +kernel
theorem dL_falls_15 : decode cL_falls 15 = .ok (.iconst 1, 1) := by decide +kernel
theorem dL_falls_16 : decode cL_falls 16 = .ok (.ireturn, 1) := by decide +kernel
theorem dL_falls_17 : decode cL_falls 17 = .ok (.iconst 0, 1) := by decide +kernel
theorem dL_falls_18 : decode cL_falls 18 = .ok (.ireturn, 1) := by decide +kernel
theorem dL_turn_0 : decode cL_turn 0 = .ok (.aload_n 2, 1) := by decide +kernel
theorem dL_turn_1 : decode cL_turn 1 = .ok (.iconst 0, 1) := by decide +kernel
theorem dL_turn_2 : decode cL_turn 2 = .ok (.aload_n 0, 1) := by decide +kernel
theorem dL_turn_3 : decode cL_turn 3 = .ok (.iload_n 1, 1) := by decide +kernel
theorem dL_turn_4 : decode cL_turn 4 = .ok (.invokevirtual 85, 3) := by decide +kernel
theorem dL_turn_7 : decode cL_turn 7 = .ok (.i2l, 1) := by decide +kernel
theorem dL_turn_8 : decode cL_turn 8 = .ok (.lastore, 1) := by decide +kernel
theorem dL_turn_9 : decode cL_turn 9 = .ok (.goto 6, 3) := by decide +kernel
theorem dL_turn_12 : decode cL_turn 12 = .ok (.astore_n 3, 1) := by decide +kernel
theorem dL_turn_13 : decode cL_turn 13 = .ok (.iconst 1, 1) := by decide +kernel
theorem dL_turn_14 : decode cL_turn 14 = .ok (.ireturn, 1) := by decide +kernel
theorem dL_turn_15 : decode cL_turn 15 = .ok (.iconst 0, 1) := by decide +kernel
theorem dL_turn_16 : decode cL_turn 16 = .ok (.ireturn, 1) := by decide +kernel
theorem dL_town_0 : decode cL_town 0 = .ok (.aload_n 2, 1) := by decide +kernel
theorem dL_town_1 : decode cL_town 1 = .ok (.iconst 0, 1) := by decide +kernel
theorem dL_town_2 : decode cL_town 2 = .ok (.aload_n 0, 1) := by decide +kernel
theorem dL_town_3 : decode cL_town 3 = .ok (.iload_n 1, 1) := by decide +kernel
theorem dL_town_4 : decode cL_town 4 = .ok (.invokevirtual 88, 3) := by decide +kernel
theorem dL_town_7 : decode cL_town 7 = .ok (.i2l, 1) := by decide +kernel
theorem dL_town_8 : decode cL_town 8 = .ok (.lastore, 1) := by decide +kernel
theorem dL_town_9 : decode cL_town 9 = .ok (.goto 6, 3) := by decide +kernel
theorem dL_town_12 : decode cL_town 12 = .ok (.astore_n 3, 1) := by decide +kernel
theorem dL_town_13 : decode cL_town 13 = .ok (.iconst 1, 1) := by decide +kernel
theorem dL_town_14 : decode cL_town 14 = .ok (.ireturn, 1) := by decide +kernel
theorem dL_town_15 : decode cL_town 15 = .ok (.iconst 0, 1) := by decide +kernel
theorem dL_town_16 : decode cL_town 16 = .ok (.ireturn, 1) := by decide +kernel
theorem dL_alike_0 : decode cL_alike 0 = .ok (.aload_n 3, 1) := by decide +kernel
theorem dL_alike_1 : decode cL_alike 1 = .ok (.iconst 0, 1) := by decide +kernel
theorem dL_alike_2 : decode cL_alike 2 = .ok (.aload_n 0, 1) := by decide +kernel
theorem dL_alike_3 : decode cL_alike 3 = .ok (.iload_n 1, 1) := by decide +kernel
theorem dL_alike_4 : decode cL_alike 4 = .ok (.iload_n 2, 1) := by decide +kernel
theorem dL_alike_5 : decode cL_alike 5 = .ok (.invokevirtual 91, 3) := by decide +kernel
theorem dL_alike_8 : decode cL_alike 8 = .ok (.i2l, 1) := by decide +kernel
theorem dL_alike_9 : decode cL_alike 9 = .ok (.lastore, 1) := by decide +kernel
theorem dL_alike_10 : decode cL_alike 10 = .ok (.goto 7, 3) := by decide +kernel
theorem dL_alike_13 : decode cL_alike 13 = .ok (.astore 4, 2) := by decide +kernel
theorem dL_alike_15 : decode cL_alike 15 = .ok (.iconst 1, 1) := by decide +kernel
theorem dL_alike_16 : decode cL_alike 16 = .ok (.ireturn, 1) := by decide +kernel
theorem dL_alike_17 : decode cL_alike 17 = .ok (.iconst 0, 1) := by decide +kernel
theorem dL_alike_18 : decode cL_alike 18 = .ok (.ireturn, 1) := by decide +kernel
theorem dL_nearest_0 : decode cL_nearest 0 = .ok (.aload_n 2, 1) := by decide +kernel
theorem dL_nearest_1 : decode cL_nearest 1 = .ok (.iconst 0, 1) := by decide +kernel
theorem dL_nearest_2 : decode cL_nearest 2 = .ok (.aload_n 0, 1) := by decide +kernel
theorem dL_nearest_3 : decode cL_nearest 3 = .ok (.iload_n 1, 1) := by decide +kernel
theorem dL_nearest_4 : decode cL_nearest 4 = .ok (.invokevirtual 94, 3) := by decide +kernel
theorem dL_nearest_7 : decode cL_nearest 7 = .ok (.i2l, 1) := by decide +kernel
theorem dL_nearest_8 : decode cL_nearest 8 = .ok (.lastore, 1) := by decide +kernel
theorem dL_nearest_9 : decode cL_nearest 9 = .ok (.goto 6, 3) := by decide +kernel
theorem dL_nearest_12 : decode cL_nearest 12 = .ok (.astore_n 3, 1) := by decide +kernel
theorem dL_nearest_13 : decode cL_nearest 13 = .ok (.iconst 1, 1) := by decide +kernel
theorem dL_nearest_14 : decode cL_nearest 14 = .ok (.ireturn, 1) := by decide +kernel
theorem dL_nearest_15 : decode cL_nearest 15 = .ok (.iconst 0, 1) := by decide +kernel
theorem dL_nearest_16 : decode cL_nearest 16 = .ok (.ireturn, 1) := by decide +kernel
theorem dL_sure_0 : decode cL_sure 0 = .ok (.aload 4, 2) := by decide +kernel
theorem dL_sure_2 : decode cL_sure 2 = .ok (.iconst 0, 1) := by decide +kernel
theorem dL_sure_3 : decode cL_sure 3 = .ok (.aload_n 0, 1) := by decide +kernel
theorem dL_sure_4 : decode cL_sure 4 = .ok (.iload_n 1, 1) := by decide +kernel
theorem dL_sure_5 : decode cL_sure 5 = .ok (.iload_n 2, 1) := by decide +kernel
theorem dL_sure_6 : decode cL_sure 6 = .ok (.iload_n 3, 1) := by decide +kernel
theorem dL_sure_7 : decode cL_sure 7 = .ok (.invokevirtual 97, 3) := by decide +kernel
theorem dL_sure_10 : decode cL_sure 10 = .ok (.i2l, 1) := by decide +kernel
theorem dL_sure_11 : decode cL_sure 11 = .ok (.lastore, 1) := by decide +kernel
theorem dL_sure_12 : decode cL_sure 12 = .ok (.goto 7, 3) := by decide +kernel
theorem dL_sure_15 : decode cL_sure 15 = .ok (.astore 5, 2) := by decide +kernel
theorem dL_sure_17 : decode cL_sure 17 = .ok (.iconst 1, 1) := by decide +kernel
theorem dL_sure_18 : decode cL_sure 18 = .ok (.ireturn, 1) := by decide +kernel
theorem dL_sure_19 : decode cL_sure 19 = .ok (.iconst 0, 1) := by decide +kernel
theorem dL_sure_20 : decode cL_sure 20 = .ok (.ireturn, 1) := by decide +kernel
theorem dL_before_0 : decode cL_before 0 = .ok (.aload 5, 2) := by decide +kernel
theorem dL_before_2 : decode cL_before 2 = .ok (.iconst 0, 1) := by decide +kernel
theorem dL_before_3 : decode cL_before 3 = .ok (.aload_n 0, 1) := by decide +kernel
theorem dL_before_4 : decode cL_before 4 = .ok (.iload_n 1, 1) := by decide +kernel
theorem dL_before_5 : decode cL_before 5 = .ok (.iload_n 2, 1) := by decide +kernel
theorem dL_before_6 : decode cL_before 6 = .ok (.iload_n 3, 1) := by decide +kernel
theorem dL_before_7 : decode cL_before 7 = .ok (.iload 4, 2) := by decide +kernel
theorem dL_before_9 : decode cL_before 9 = .ok (.invokevirtual 100, 3) := by decide +kernel
theorem dL_before_12 : decode cL_before 12 = .ok (.i2l, 1) := by decide +kernel
theorem dL_before_13 : decode cL_before 13 = .ok (.lastore, 1) := by decide +kernel
theorem dL_before_14 : decode cL_before 14 = .ok (.goto 11, 3) := by decide +kernel
theorem dL_before_17 : decode cL_before 17 = .ok (.astore 6, 2) := by decide +kernel
theorem dL_before_19 : decode cL_before 19 = .ok (.iconst 1, 1) := by decide +kernel
theorem dL_before_20 : decode cL_before 20 = .ok (.ireturn, 1) := by decide +kernel
theorem dL_before_21 : decode cL_before 21 = .ok (.astore 6, 2) := by decide +kernel
theorem dL_before_23 : decode cL_before 23 = .ok (.iconst 2, 1) := by decide +kernel
theorem dL_before_24 : decode cL_before 24 = .ok (.ireturn, 1) := by decide +kernel
theorem dL_before_25 : decode cL_before 25 = .ok (.iconst 0, 1) := by decide +kernel
theorem dL_before_26 : decode cL_before 26 = .ok (.ireturn, 1) := by decide +kernel
theorem dL_told_0 : decode cL_told 0 = .ok (.aload 5, 2) := by decide +kernel
theorem dL_told_2 : decode cL_told 2 = .ok (.iconst 0, 1) := by decide +kernel
theorem dL_told_3 : decode cL_told 3 = .ok (.aload_n 0, 1) := by decide +kernel
theorem dL_told_4 : decode cL_told 4 = .ok (.iload_n 1, 1) := by decide +kernel
theorem dL_told_5 : decode cL_told 5 = .ok (.iload_n 2, 1) := by decide +kernel
theorem dL_told_6 : decode cL_told 6 = .ok (.iload_n 3, 1) := by decide +kernel
theorem dL_told_7 : decode cL_told 7 = .ok (.iload 4, 2) := by decide +kernel
theorem dL_told_9 : decode cL_told 9 = .ok (.invokevirtual 103, 3) := by decide +kernel
theorem dL_told_12 : decode cL_told 12 = .ok (.i2l, 1) := by decide +kernel
theorem dL_told_13 : decode cL_told 13 = .ok (.lastore, 1) := by decide +kernel
theorem dL_told_14 : decode cL_told 14 = .ok (.goto 11, 3) := by decide +kernel
theorem dL_told_17 : decode cL_told 17 = .ok (.astore 6, 2) := by decide +kernel
theorem dL_told_19 : decode cL_told 19 = .ok (.iconst 1, 1) := by decide +kernel
theorem dL_told_20 : decode cL_told 20 = .ok (.ireturn, 1) := by decide +kernel
theorem dL_told_21 : decode cL_told 21 = .ok (.astore 6, 2) := by decide +kernel
theorem dL_told_23 : decode cL_told 23 = .ok (.iconst 2, 1) := by decide +kernel
theorem dL_told_24 : decode cL_told 24 = .ok (.ireturn, 1) := by decide +kernel
theorem dL_told_25 : decode cL_told 25 = .ok (.iconst 0, 1) := by decide +kernel
theorem dL_told_26 : decode cL_told 26 = .ok (.ireturn, 1) := by decide +kernel
theorem dL_next_0 : decode cL_next 0 = .ok (.aload_n 2, 1) := by decide +kernel
theorem dL_next_1 : decode cL_next 1 = .ok (.iconst 0, 1) := by decide +kernel
theorem dL_next_2 : decode cL_next 2 = .ok (.aload_n 0, 1) := by decide +kernel
theorem dL_next_3 : decode cL_next 3 = .ok (.iload_n 1, 1) := by decide +kernel
theorem dL_next_4 : decode cL_next 4 = .ok (.invokevirtual 106, 3) := by decide +kernel
theorem dL_next_7 : decode cL_next 7 = .ok (.i2l, 1) := by decide +kernel
theorem dL_next_8 : decode cL_next 8 = .ok (.lastore, 1) := by decide +kernel
theorem dL_next_9 : decode cL_next 9 = .ok (.goto 6, 3) := by decide +kernel
theorem dL_next_12 : decode cL_next 12 = .ok (.astore_n 3, 1) := by decide +kernel
theorem dL_next_13 : decode cL_next 13 = .ok (.iconst 1, 1) := by decide +kernel
theorem dL_next_14 : decode cL_next 14 = .ok (.ireturn, 1) := by decide +kernel
theorem dL_next_15 : decode cL_next 15 = .ok (.iconst 0, 1) := by decide +kernel
theorem dL_next_16 : decode cL_next 16 = .ok (.ireturn, 1) := by decide +kernel
theorem dL_law__0 : decode cL_law_ 0 = .ok (.new 8, 3) := by decide +kernel
theorem dL_law__3 : decode cL_law_ 3 = .ok (.dup, 1) := by decide +kernel
theorem dL_law__4 : decode cL_law_ 4 = .ok (.invokespecial 109, 3) := by decide +kernel
theorem dL_law__7 : decode cL_law_ 7 = .ok (.astore_n 1, 1) := by decide +kernel
theorem dL_law__8 : decode cL_law_ 8 = .ok (.new 110, 3) := by decide +kernel
theorem dL_law__11 : decode cL_law_ 11 = .ok (.dup, 1) := by decide +kernel
theorem dL_law__12 : decode cL_law_ 12 = .ok (.invokespecial 112, 3) := by decide +kernel
theorem dL_law__15 : decode cL_law_ 15 = .ok (.astore_n 2, 1) := by decide +kernel
theorem dL_law__16 : decode cL_law_ 16 = .ok (.iconst 1, 1) := by decide +kernel
theorem dL_law__17 : decode cL_law_ 17 = .ok (.newarray .long, 2) := by decide +kernel
theorem dL_law__19 : decode cL_law_ 19 = .ok (.astore_n 3, 1) := by decide +kernel
theorem dL_law__20 : decode cL_law_ 20 = .ok (.iconst 0, 1) := by decide +kernel
theorem dL_law__21 : decode cL_law_ 21 = .ok (.istore 4, 2) := by decide +kernel
theorem dL_law__23 : decode cL_law_ 23 = .ok (.iload 4, 2) := by decide +kernel
theorem dL_law__25 : decode cL_law_ 25 = .ok (.aload_n 0, 1) := by decide +kernel
theorem dL_law__26 : decode cL_law_ 26 = .ok (.arraylength, 1) := by decide +kernel
theorem dL_law__27 : decode cL_law_ 27 = .ok (.bipush 6, 2) := by decide +kernel
theorem dL_law__29 : decode cL_law_ 29 = .ok (.isub, 1) := by decide +kernel
theorem dL_law__30 : decode cL_law_ 30 = .ok (.if_icmp .gt 2442, 3) := by decide +kernel
theorem dL_law__33 : decode cL_law_ 33 = .ok (.aload_n 0, 1) := by decide +kernel
theorem dL_law__34 : decode cL_law_ 34 = .ok (.iload 4, 2) := by decide +kernel
theorem dL_law__36 : decode cL_law_ 36 = .ok (.iaload, 1) := by decide +kernel
theorem dL_law__37 : decode cL_law_ 37 = .ok (.bipush 63, 2) := by decide +kernel
theorem dL_law__39 : decode cL_law_ 39 = .ok (.iand, 1) := by decide +kernel
theorem dL_law__40 : decode cL_law_ 40 = .ok (.tableswitch 2426 0 35 #[160, 233, 301, 357, 425, 438, 494, 562, 642, 722, 814, 870, 950, 1018, 1105, 1185, 1253, 1321, 1388, 1468, 1548, 1604, 1660, 1728, 1796, 1833, 1846, 1902, 1958, 2026, 2082, 2162, 2254, 2346, 2402, 2413], 160) := by decide +kernel
theorem dL_law__200 : decode cL_law_ 200 = .ok (.aload_n 1, 1) := by decide +kernel
theorem dL_law__201 : decode cL_law_ 201 = .ok (.aload_n 0, 1) := by decide +kernel
theorem dL_law__202 : decode cL_law_ 202 = .ok (.iload 4, 2) := by decide +kernel
theorem dL_law__204 : decode cL_law_ 204 = .ok (.iconst 1, 1) := by decide +kernel
theorem dL_law__205 : decode cL_law_ 205 = .ok (.iadd, 1) := by decide +kernel
theorem dL_law__206 : decode cL_law_ 206 = .ok (.iaload, 1) := by decide +kernel
theorem dL_law__207 : decode cL_law_ 207 = .ok (.aload_n 0, 1) := by decide +kernel
theorem dL_law__208 : decode cL_law_ 208 = .ok (.iload 4, 2) := by decide +kernel
theorem dL_law__210 : decode cL_law_ 210 = .ok (.iconst 2, 1) := by decide +kernel
theorem dL_law__211 : decode cL_law_ 211 = .ok (.iadd, 1) := by decide +kernel
theorem dL_law__212 : decode cL_law_ 212 = .ok (.iaload, 1) := by decide +kernel
theorem dL_law__213 : decode cL_law_ 213 = .ok (.aload_n 0, 1) := by decide +kernel
theorem dL_law__214 : decode cL_law_ 214 = .ok (.iload 4, 2) := by decide +kernel
theorem dL_law__216 : decode cL_law_ 216 = .ok (.iconst 3, 1) := by decide +kernel
theorem dL_law__217 : decode cL_law_ 217 = .ok (.iadd, 1) := by decide +kernel
theorem dL_law__218 : decode cL_law_ 218 = .ok (.iaload, 1) := by decide +kernel
theorem dL_law__219 : decode cL_law_ 219 = .ok (.aload_n 0, 1) := by decide +kernel
theorem dL_law__220 : decode cL_law_ 220 = .ok (.iload 4, 2) := by decide +kernel
theorem dL_law__222 : decode cL_law_ 222 = .ok (.iconst 4, 1) := by decide +kernel
theorem dL_law__223 : decode cL_law_ 223 = .ok (.iadd, 1) := by decide +kernel
theorem dL_law__224 : decode cL_law_ 224 = .ok (.iaload, 1) := by decide +kernel
theorem dL_law__225 : decode cL_law_ 225 = .ok (.aload_n 0, 1) := by decide +kernel
theorem dL_law__226 : decode cL_law_ 226 = .ok (.iload 4, 2) := by decide +kernel
theorem dL_law__228 : decode cL_law_ 228 = .ok (.iconst 5, 1) := by decide +kernel
theorem dL_law__229 : decode cL_law_ 229 = .ok (.iadd, 1) := by decide +kernel
theorem dL_law__230 : decode cL_law_ 230 = .ok (.iaload, 1) := by decide +kernel
theorem dL_law__231 : decode cL_law_ 231 = .ok (.invokevirtual 113, 3) := by decide +kernel
theorem dL_law__234 : decode cL_law_ 234 = .ok (.aload_n 2, 1) := by decide +kernel
theorem dL_law__235 : decode cL_law_ 235 = .ok (.aload_n 0, 1) := by decide +kernel
theorem dL_law__236 : decode cL_law_ 236 = .ok (.iload 4, 2) := by decide +kernel
theorem dL_law__238 : decode cL_law_ 238 = .ok (.iconst 1, 1) := by decide +kernel
theorem dL_law__239 : decode cL_law_ 239 = .ok (.iadd, 1) := by decide +kernel
theorem dL_law__240 : decode cL_law_ 240 = .ok (.iaload, 1) := by decide +kernel
theorem dL_law__241 : decode cL_law_ 241 = .ok (.aload_n 0, 1) := by decide +kernel
theorem dL_law__242 : decode cL_law_ 242 = .ok (.iload 4, 2) := by decide +kernel
theorem dL_law__244 : decode cL_law_ 244 = .ok (.iconst 2, 1) := by decide +kernel
theorem dL_law__245 : decode cL_law_ 245 = .ok (.iadd, 1) := by decide +kernel
theorem dL_law__246 : decode cL_law_ 246 = .ok (.iaload, 1) := by decide +kernel
theorem dL_law__247 : decode cL_law_ 247 = .ok (.aload_n 0, 1) := by decide +kernel
theorem dL_law__248 : decode cL_law_ 248 = .ok (.iload 4, 2) := by decide +kernel
theorem dL_law__250 : decode cL_law_ 250 = .ok (.iconst 3, 1) := by decide +kernel
theorem dL_law__251 : decode cL_law_ 251 = .ok (.iadd, 1) := by decide +kernel
theorem dL_law__252 : decode cL_law_ 252 = .ok (.iaload, 1) := by decide +kernel
theorem dL_law__253 : decode cL_law_ 253 = .ok (.aload_n 0, 1) := by decide +kernel
theorem dL_law__254 : decode cL_law_ 254 = .ok (.iload 4, 2) := by decide +kernel
theorem dL_law__256 : decode cL_law_ 256 = .ok (.iconst 4, 1) := by decide +kernel
theorem dL_law__257 : decode cL_law_ 257 = .ok (.iadd, 1) := by decide +kernel
theorem dL_law__258 : decode cL_law_ 258 = .ok (.iaload, 1) := by decide +kernel
theorem dL_law__259 : decode cL_law_ 259 = .ok (.aload_n 0, 1) := by decide +kernel
theorem dL_law__260 : decode cL_law_ 260 = .ok (.iload 4, 2) := by decide +kernel
theorem dL_law__262 : decode cL_law_ 262 = .ok (.iconst 5, 1) := by decide +kernel
theorem dL_law__263 : decode cL_law_ 263 = .ok (.iadd, 1) := by decide +kernel
theorem dL_law__264 : decode cL_law_ 264 = .ok (.iaload, 1) := by decide +kernel
theorem dL_law__265 : decode cL_law_ 265 = .ok (.invokevirtual 117, 3) := by decide +kernel
theorem dL_law__268 : decode cL_law_ 268 = .ok (.if_icmp .eq 2198, 3) := by decide +kernel
theorem dL_law__271 : decode cL_law_ 271 = .ok (.iconst 0, 1) := by decide +kernel
theorem dL_law__272 : decode cL_law_ 272 = .ok (.ireturn, 1) := by decide +kernel
theorem dL_law__273 : decode cL_law_ 273 = .ok (.aload_n 1, 1) := by decide +kernel
theorem dL_law__274 : decode cL_law_ 274 = .ok (.aload_n 0, 1) := by decide +kernel
theorem dL_law__275 : decode cL_law_ 275 = .ok (.iload 4, 2) := by decide +kernel
theorem dL_law__277 : decode cL_law_ 277 = .ok (.iconst 1, 1) := by decide +kernel
theorem dL_law__278 : decode cL_law_ 278 = .ok (.iadd, 1) := by decide +kernel
theorem dL_law__279 : decode cL_law_ 279 = .ok (.iaload, 1) := by decide +kernel
theorem dL_law__280 : decode cL_law_ 280 = .ok (.aload_n 0, 1) := by decide +kernel
theorem dL_law__281 : decode cL_law_ 281 = .ok (.iload 4, 2) := by decide +kernel
theorem dL_law__283 : decode cL_law_ 283 = .ok (.iconst 2, 1) := by decide +kernel
theorem dL_law__284 : decode cL_law_ 284 = .ok (.iadd, 1) := by decide +kernel
theorem dL_law__285 : decode cL_law_ 285 = .ok (.iaload, 1) := by decide +kernel
theorem dL_law__286 : decode cL_law_ 286 = .ok (.aload_n 3, 1) := by decide +kernel
theorem dL_law__287 : decode cL_law_ 287 = .ok (.invokestatic 118, 3) := by decide +kernel
theorem dL_law__290 : decode cL_law_ 290 = .ok (.istore 5, 2) := by decide +kernel
theorem dL_law__292 : decode cL_law_ 292 = .ok (.aload_n 2, 1) := by decide +kernel
theorem dL_law__293 : decode cL_law_ 293 = .ok (.aload_n 0, 1) := by decide +kernel
theorem dL_law__294 : decode cL_law_ 294 = .ok (.iload 4, 2) := by decide +kernel
theorem dL_law__296 : decode cL_law_ 296 = .ok (.iconst 1, 1) := by decide +kernel
theorem dL_law__297 : decode cL_law_ 297 = .ok (.iadd, 1) := by decide +kernel
theorem dL_law__298 : decode cL_law_ 298 = .ok (.iaload, 1) := by decide +kernel
theorem dL_law__299 : decode cL_law_ 299 = .ok (.aload_n 0, 1) := by decide +kernel
theorem dL_law__300 : decode cL_law_ 300 = .ok (.iload 4, 2) := by decide +kernel
theorem dL_law__302 : decode cL_law_ 302 = .ok (.iconst 2, 1) := by decide +kernel
theorem dL_law__303 : decode cL_law_ 303 = .ok (.iadd, 1) := by decide +kernel
theorem dL_law__304 : decode cL_law_ 304 = .ok (.iaload, 1) := by decide +kernel
theorem dL_law__305 : decode cL_law_ 305 = .ok (.invokevirtual 123, 3) := by decide +kernel
theorem dL_law__308 : decode cL_law_ 308 = .ok (.istore 6, 2) := by decide +kernel
theorem dL_law__310 : decode cL_law_ 310 = .ok (.aload_n 2, 1) := by decide +kernel
theorem dL_law__311 : decode cL_law_ 311 = .ok (.invokevirtual 124, 3) := by decide +kernel
theorem dL_law__314 : decode cL_law_ 314 = .ok (.iload 5, 2) := by decide +kernel
theorem dL_law__316 : decode cL_law_ 316 = .ok (.if_icmp .eq 5, 3) := by decide +kernel
theorem dL_law__319 : decode cL_law_ 319 = .ok (.iconst 0, 1) := by decide +kernel
theorem dL_law__320 : decode cL_law_ 320 = .ok (.ireturn, 1) := by decide +kernel
theorem dL_law__321 : decode cL_law_ 321 = .ok (.iload 5, 2) := by decide +kernel
theorem dL_law__323 : decode cL_law_ 323 = .ok (.ifCond .ne 15, 3) := by decide +kernel
theorem dL_law__326 : decode cL_law_ 326 = .ok (.aload_n 3, 1) := by decide +kernel
theorem dL_law__327 : decode cL_law_ 327 = .ok (.iconst 0, 1) := by decide +kernel
theorem dL_law__328 : decode cL_law_ 328 = .ok (.laload, 1) := by decide +kernel
theorem dL_law__329 : decode cL_law_ 329 = .ok (.iload 6, 2) := by decide +kernel
theorem dL_law__331 : decode cL_law_ 331 = .ok (.i2l, 1) := by decide +kernel
theorem dL_law__332 : decode cL_law_ 332 = .ok (.lcmp, 1) := by decide +kernel
theorem dL_law__333 : decode cL_law_ 333 = .ok (.ifCond .eq 5, 3) := by decide +kernel
theorem dL_law__336 : decode cL_law_ 336 = .ok (.iconst 0, 1) := by decide +kernel
theorem dL_law__337 : decode cL_law_ 337 = .ok (.ireturn, 1) := by decide +kernel
theorem dL_law__338 : decode cL_law_ 338 = .ok (.goto 2128, 3) := by decide +kernel
theorem dL_law__341 : decode cL_law_ 341 = .ok (.aload_n 1, 1) := by decide +kernel
theorem dL_law__342 : decode cL_law_ 342 = .ok (.aload_n 0, 1) := by decide +kernel
theorem dL_law__343 : decode cL_law_ 343 = .ok (.iload 4, 2) := by decide +kernel
theorem dL_law__345 : decode cL_law_ 345 = .ok (.iconst 1, 1) := by decide +kernel
theorem dL_law__346 : decode cL_law_ 346 = .ok (.iadd, 1) := by decide +kernel
theorem dL_law__347 : decode cL_law_ 347 = .ok (.iaload, 1) := by decide +kernel
theorem dL_law__348 : decode cL_law_ 348 = .ok (.aload_n 3, 1) := by decide +kernel
theorem dL_law__349 : decode cL_law_ 349 = .ok (.invokestatic 128, 3) := by decide +kernel
theorem dL_law__352 : decode cL_law_ 352 = .ok (.istore 5, 2) := by decide +kernel
theorem dL_law__354 : decode cL_law_ 354 = .ok (.aload_n 2, 1) := by decide +kernel
theorem dL_law__355 : decode cL_law_ 355 = .ok (.aload_n 0, 1) := by decide +kernel
theorem dL_law__356 : decode cL_law_ 356 = .ok (.iload 4, 2) := by decide +kernel
theorem dL_law__358 : decode cL_law_ 358 = .ok (.iconst 1, 1) := by decide +kernel
theorem dL_law__359 : decode cL_law_ 359 = .ok (.iadd, 1) := by decide +kernel
theorem dL_law__360 : decode cL_law_ 360 = .ok (.iaload, 1) := by decide +kernel
theorem dL_law__361 : decode cL_law_ 361 = .ok (.invokevirtual 131, 3) := by decide +kernel
theorem dL_law__364 : decode cL_law_ 364 = .ok (.istore 6, 2) := by decide +kernel
theorem dL_law__366 : decode cL_law_ 366 = .ok (.aload_n 2, 1) := by decide +kernel
theorem dL_law__367 : decode cL_law_ 367 = .ok (.invokevirtual 124, 3) := by decide +kernel
theorem dL_law__370 : decode cL_law_ 370 = .ok (.iload 5, 2) := by decide +kernel
theorem dL_law__372 : decode cL_law_ 372 = .ok (.if_icmp .eq 5, 3) := by decide +kernel
theorem dL_law__375 : decode cL_law_ 375 = .ok (.iconst 0, 1) := by decide +kernel
theorem dL_law__376 : decode cL_law_ 376 = .ok (.ireturn, 1) := by decide +kernel
theorem dL_law__377 : decode cL_law_ 377 = .ok (.iload 5, 2) := by decide +kernel
theorem dL_law__379 : decode cL_law_ 379 = .ok (.ifCond .ne 15, 3) := by decide +kernel
theorem dL_law__382 : decode cL_law_ 382 = .ok (.aload_n 3, 1) := by decide +kernel
theorem dL_law__383 : decode cL_law_ 383 = .ok (.iconst 0, 1) := by decide +kernel
theorem dL_law__384 : decode cL_law_ 384 = .ok (.laload, 1) := by decide +kernel
theorem dL_law__385 : decode cL_law_ 385 = .ok (.iload 6, 2) := by decide +kernel
theorem dL_law__387 : decode cL_law_ 387 = .ok (.i2l, 1) := by decide +kernel
theorem dL_law__388 : decode cL_law_ 388 = .ok (.lcmp, 1) := by decide +kernel
theorem dL_law__389 : decode cL_law_ 389 = .ok (.ifCond .eq 5, 3) := by decide +kernel
theorem dL_law__392 : decode cL_law_ 392 = .ok (.iconst 0, 1) := by decide +kernel
theorem dL_law__393 : decode cL_law_ 393 = .ok (.ireturn, 1) := by decide +kernel
theorem dL_law__394 : decode cL_law_ 394 = .ok (.goto 2072, 3) := by decide +kernel
theorem dL_law__397 : decode cL_law_ 397 = .ok (.aload_n 1, 1) := by decide +kernel
theorem dL_law__398 : decode cL_law_ 398 = .ok (.aload_n 0, 1) := by decide +kernel
theorem dL_law__399 : decode cL_law_ 399 = .ok (.iload 4, 2) := by decide +kernel
theorem dL_law__401 : decode cL_law_ 401 = .ok (.iconst 1, 1) := by decide +kernel
theorem dL_law__402 : decode cL_law_ 402 = .ok (.iadd, 1) := by decide +kernel
theorem dL_law__403 : decode cL_law_ 403 = .ok (.iaload, 1) := by decide +kernel
theorem dL_law__404 : decode cL_law_ 404 = .ok (.aload_n 0, 1) := by decide +kernel
theorem dL_law__405 : decode cL_law_ 405 = .ok (.iload 4, 2) := by decide +kernel
theorem dL_law__407 : decode cL_law_ 407 = .ok (.iconst 2, 1) := by decide +kernel
theorem dL_law__408 : decode cL_law_ 408 = .ok (.iadd, 1) := by decide +kernel
theorem dL_law__409 : decode cL_law_ 409 = .ok (.iaload, 1) := by decide +kernel
theorem dL_law__410 : decode cL_law_ 410 = .ok (.aload_n 3, 1) := by decide +kernel
theorem dL_law__411 : decode cL_law_ 411 = .ok (.invokestatic 132, 3) := by decide +kernel
theorem dL_law__414 : decode cL_law_ 414 = .ok (.istore 5, 2) := by decide +kernel
theorem dL_law__416 : decode cL_law_ 416 = .ok (.aload_n 2, 1) := by decide +kernel
theorem dL_law__417 : decode cL_law_ 417 = .ok (.aload_n 0, 1) := by decide +kernel
theorem dL_law__418 : decode cL_law_ 418 = .ok (.iload 4, 2) := by decide +kernel
theorem dL_law__420 : decode cL_law_ 420 = .ok (.iconst 1, 1) := by decide +kernel
theorem dL_law__421 : decode cL_law_ 421 = .ok (.iadd, 1) := by decide +kernel
theorem dL_law__422 : decode cL_law_ 422 = .ok (.iaload, 1) := by decide +kernel
theorem dL_law__423 : decode cL_law_ 423 = .ok (.aload_n 0, 1) := by decide +kernel
theorem dL_law__424 : decode cL_law_ 424 = .ok (.iload 4, 2) := by decide +kernel
theorem dL_law__426 : decode cL_law_ 426 = .ok (.iconst 2, 1) := by decide +kernel
theorem dL_law__427 : decode cL_law_ 427 = .ok (.iadd, 1) := by decide +kernel
theorem dL_law__428 : decode cL_law_ 428 = .ok (.iaload, 1) := by decide +kernel
theorem dL_law__429 : decode cL_law_ 429 = .ok (.invokevirtual 134, 3) := by decide +kernel
theorem dL_law__432 : decode cL_law_ 432 = .ok (.istore 6, 2) := by decide +kernel
theorem dL_law__434 : decode cL_law_ 434 = .ok (.aload_n 2, 1) := by decide +kernel
theorem dL_law__435 : decode cL_law_ 435 = .ok (.invokevirtual 124, 3) := by decide +kernel
theorem dL_law__438 : decode cL_law_ 438 = .ok (.iload 5, 2) := by decide +kernel
theorem dL_law__440 : decode cL_law_ 440 = .ok (.if_icmp .eq 5, 3) := by decide +kernel
theorem dL_law__443 : decode cL_law_ 443 = .ok (.iconst 0, 1) := by decide +kernel
theorem dL_law__444 : decode cL_law_ 444 = .ok (.ireturn, 1) := by decide +kernel
theorem dL_law__445 : decode cL_law_ 445 = .ok (.iload 5, 2) := by decide +kernel
theorem dL_law__447 : decode cL_law_ 447 = .ok (.ifCond .ne 15, 3) := by decide +kernel
theorem dL_law__450 : decode cL_law_ 450 = .ok (.aload_n 3, 1) := by decide +kernel
theorem dL_law__451 : decode cL_law_ 451 = .ok (.iconst 0, 1) := by decide +kernel
theorem dL_law__452 : decode cL_law_ 452 = .ok (.laload, 1) := by decide +kernel
theorem dL_law__453 : decode cL_law_ 453 = .ok (.iload 6, 2) := by decide +kernel
theorem dL_law__455 : decode cL_law_ 455 = .ok (.i2l, 1) := by decide +kernel
theorem dL_law__456 : decode cL_law_ 456 = .ok (.lcmp, 1) := by decide +kernel
theorem dL_law__457 : decode cL_law_ 457 = .ok (.ifCond .eq 5, 3) := by decide +kernel
theorem dL_law__460 : decode cL_law_ 460 = .ok (.iconst 0, 1) := by decide +kernel
theorem dL_law__461 : decode cL_law_ 461 = .ok (.ireturn, 1) := by decide +kernel
theorem dL_law__462 : decode cL_law_ 462 = .ok (.goto 2004, 3) := by decide +kernel
theorem dL_law__465 : decode cL_law_ 465 = .ok (.aload_n 1, 1) := by decide +kernel
theorem dL_law__466 : decode cL_law_ 466 = .ok (.invokevirtual 135, 3) := by decide +kernel
theorem dL_law__469 : decode cL_law_ 469 = .ok (.aload_n 2, 1) := by decide +kernel
theorem dL_law__470 : decode cL_law_ 470 = .ok (.invokevirtual 138, 3) := by decide +kernel
theorem dL_law__473 : decode cL_law_ 473 = .ok (.if_icmp .eq 1993, 3) := by decide +kernel
theorem dL_law__476 : decode cL_law_ 476 = .ok (.iconst 0, 1) := by decide +kernel
theorem dL_law__477 : decode cL_law_ 477 = .ok (.ireturn, 1) := by decide +kernel
theorem dL_law__478 : decode cL_law_ 478 = .ok (.aload_n 1, 1) := by decide +kernel
theorem dL_law__479 : decode cL_law_ 479 = .ok (.aload_n 0, 1) := by decide +kernel
theorem dL_law__480 : decode cL_law_ 480 = .ok (.iload 4, 2) := by decide +kernel
theorem dL_law__482 : decode cL_law_ 482 = .ok (.iconst 1, 1) := by decide +kernel
theorem dL_law__483 : decode cL_law_ 483 = .ok (.iadd, 1) := by decide +kernel
theorem dL_law__484 : decode cL_law_ 484 = .ok (.iaload, 1) := by decide +kernel
theorem dL_law__485 : decode cL_law_ 485 = .ok (.aload_n 3, 1) := by decide +kernel
theorem dL_law__486 : decode cL_law_ 486 = .ok (.invokestatic 139, 3) := by decide +kernel
theorem dL_law__489 : decode cL_law_ 489 = .ok (.istore 5, 2) := by decide +kernel
theorem dL_law__491 : decode cL_law_ 491 = .ok (.aload_n 2, 1) := by decide +kernel
theorem dL_law__492 : decode cL_law_ 492 = .ok (.aload_n 0, 1) := by decide +kernel
theorem dL_law__493 : decode cL_law_ 493 = .ok (.iload 4, 2) := by decide +kernel
theorem dL_law__495 : decode cL_law_ 495 = .ok (.iconst 1, 1) := by decide +kernel
theorem dL_law__496 : decode cL_law_ 496 = .ok (.iadd, 1) := by decide +kernel
theorem dL_law__497 : decode cL_law_ 497 = .ok (.iaload, 1) := by decide +kernel
theorem dL_law__498 : decode cL_law_ 498 = .ok (.invokevirtual 141, 3) := by decide +kernel
theorem dL_law__501 : decode cL_law_ 501 = .ok (.istore 6, 2) := by decide +kernel
theorem dL_law__503 : decode cL_law_ 503 = .ok (.aload_n 2, 1) := by decide +kernel
theorem dL_law__504 : decode cL_law_ 504 = .ok (.invokevirtual 124, 3) := by decide +kernel
theorem dL_law__507 : decode cL_law_ 507 = .ok (.iload 5, 2) := by decide +kernel
theorem dL_law__509 : decode cL_law_ 509 = .ok (.if_icmp .eq 5, 3) := by decide +kernel
theorem dL_law__512 : decode cL_law_ 512 = .ok (.iconst 0, 1) := by decide +kernel
theorem dL_law__513 : decode cL_law_ 513 = .ok (.ireturn, 1) := by decide +kernel
theorem dL_law__514 : decode cL_law_ 514 = .ok (.iload 5, 2) := by decide +kernel
theorem dL_law__516 : decode cL_law_ 516 = .ok (.ifCond .ne 15, 3) := by decide +kernel
theorem dL_law__519 : decode cL_law_ 519 = .ok (.aload_n 3, 1) := by decide +kernel
theorem dL_law__520 : decode cL_law_ 520 = .ok (.iconst 0, 1) := by decide +kernel
theorem dL_law__521 : decode cL_law_ 521 = .ok (.laload, 1) := by decide +kernel
theorem dL_law__522 : decode cL_law_ 522 = .ok (.iload 6, 2) := by decide +kernel
theorem dL_law__524 : decode cL_law_ 524 = .ok (.i2l, 1) := by decide +kernel
theorem dL_law__525 : decode cL_law_ 525 = .ok (.lcmp, 1) := by decide +kernel
theorem dL_law__526 : decode cL_law_ 526 = .ok (.ifCond .eq 5, 3) := by decide +kernel
theorem dL_law__529 : decode cL_law_ 529 = .ok (.iconst 0, 1) := by decide +kernel
theorem dL_law__530 : decode cL_law_ 530 = .ok (.ireturn, 1) := by decide +kernel
theorem dL_law__531 : decode cL_law_ 531 = .ok (.goto 1935, 3) := by decide +kernel
theorem dL_law__534 : decode cL_law_ 534 = .ok (.aload_n 1, 1) := by decide +kernel
theorem dL_law__535 : decode cL_law_ 535 = .ok (.aload_n 0, 1) := by decide +kernel
theorem dL_law__536 : decode cL_law_ 536 = .ok (.iload 4, 2) := by decide +kernel
theorem dL_law__538 : decode cL_law_ 538 = .ok (.iconst 1, 1) := by decide +kernel
theorem dL_law__539 : decode cL_law_ 539 = .ok (.iadd, 1) := by decide +kernel
theorem dL_law__540 : decode cL_law_ 540 = .ok (.iaload, 1) := by decide +kernel
theorem dL_law__541 : decode cL_law_ 541 = .ok (.aload_n 0, 1) := by decide +kernel
theorem dL_law__542 : decode cL_law_ 542 = .ok (.iload 4, 2) := by decide +kernel
theorem dL_law__544 : decode cL_law_ 544 = .ok (.iconst 2, 1) := by decide +kernel
theorem dL_law__545 : decode cL_law_ 545 = .ok (.iadd, 1) := by decide +kernel
theorem dL_law__546 : decode cL_law_ 546 = .ok (.iaload, 1) := by decide +kernel
theorem dL_law__547 : decode cL_law_ 547 = .ok (.aload_n 3, 1) := by decide +kernel
theorem dL_law__548 : decode cL_law_ 548 = .ok (.invokestatic 142, 3) := by decide +kernel
theorem dL_law__551 : decode cL_law_ 551 = .ok (.istore 5, 2) := by decide +kernel
theorem dL_law__553 : decode cL_law_ 553 = .ok (.aload_n 2, 1) := by decide +kernel
theorem dL_law__554 : decode cL_law_ 554 = .ok (.aload_n 0, 1) := by decide +kernel
theorem dL_law__555 : decode cL_law_ 555 = .ok (.iload 4, 2) := by decide +kernel
theorem dL_law__557 : decode cL_law_ 557 = .ok (.iconst 1, 1) := by decide +kernel
theorem dL_law__558 : decode cL_law_ 558 = .ok (.iadd, 1) := by decide +kernel
theorem dL_law__559 : decode cL_law_ 559 = .ok (.iaload, 1) := by decide +kernel
theorem dL_law__560 : decode cL_law_ 560 = .ok (.aload_n 0, 1) := by decide +kernel
theorem dL_law__561 : decode cL_law_ 561 = .ok (.iload 4, 2) := by decide +kernel
theorem dL_law__563 : decode cL_law_ 563 = .ok (.iconst 2, 1) := by decide +kernel
theorem dL_law__564 : decode cL_law_ 564 = .ok (.iadd, 1) := by decide +kernel
theorem dL_law__565 : decode cL_law_ 565 = .ok (.iaload, 1) := by decide +kernel
theorem dL_law__566 : decode cL_law_ 566 = .ok (.invokevirtual 144, 3) := by decide +kernel
theorem dL_law__569 : decode cL_law_ 569 = .ok (.istore 6, 2) := by decide +kernel
theorem dL_law__571 : decode cL_law_ 571 = .ok (.aload_n 2, 1) := by decide +kernel
theorem dL_law__572 : decode cL_law_ 572 = .ok (.invokevirtual 124, 3) := by decide +kernel
theorem dL_law__575 : decode cL_law_ 575 = .ok (.iload 5, 2) := by decide +kernel
theorem dL_law__577 : decode cL_law_ 577 = .ok (.if_icmp .eq 5, 3) := by decide +kernel
theorem dL_law__580 : decode cL_law_ 580 = .ok (.iconst 0, 1) := by decide +kernel
theorem dL_law__581 : decode cL_law_ 581 = .ok (.ireturn, 1) := by decide +kernel
theorem dL_law__582 : decode cL_law_ 582 = .ok (.iload 5, 2) := by decide +kernel
theorem dL_law__584 : decode cL_law_ 584 = .ok (.ifCond .ne 15, 3) := by decide +kernel
theorem dL_law__587 : decode cL_law_ 587 = .ok (.aload_n 3, 1) := by decide +kernel
theorem dL_law__588 : decode cL_law_ 588 = .ok (.iconst 0, 1) := by decide +kernel
theorem dL_law__589 : decode cL_law_ 589 = .ok (.laload, 1) := by decide +kernel
theorem dL_law__590 : decode cL_law_ 590 = .ok (.iload 6, 2) := by decide +kernel
theorem dL_law__592 : decode cL_law_ 592 = .ok (.i2l, 1) := by decide +kernel
theorem dL_law__593 : decode cL_law_ 593 = .ok (.lcmp, 1) := by decide +kernel
theorem dL_law__594 : decode cL_law_ 594 = .ok (.ifCond .eq 5, 3) := by decide +kernel
theorem dL_law__597 : decode cL_law_ 597 = .ok (.iconst 0, 1) := by decide +kernel
theorem dL_law__598 : decode cL_law_ 598 = .ok (.ireturn, 1) := by decide +kernel
theorem dL_law__599 : decode cL_law_ 599 = .ok (.goto 1867, 3) := by decide +kernel
theorem dL_law__602 : decode cL_law_ 602 = .ok (.aload_n 1, 1) := by decide +kernel
theorem dL_law__603 : decode cL_law_ 603 = .ok (.aload_n 0, 1) := by decide +kernel
theorem dL_law__604 : decode cL_law_ 604 = .ok (.iload 4, 2) := by decide +kernel
theorem dL_law__606 : decode cL_law_ 606 = .ok (.iconst 1, 1) := by decide +kernel
theorem dL_law__607 : decode cL_law_ 607 = .ok (.iadd, 1) := by decide +kernel
theorem dL_law__608 : decode cL_law_ 608 = .ok (.iaload, 1) := by decide +kernel
theorem dL_law__609 : decode cL_law_ 609 = .ok (.aload_n 0, 1) := by decide +kernel
theorem dL_law__610 : decode cL_law_ 610 = .ok (.iload 4, 2) := by decide +kernel
theorem dL_law__612 : decode cL_law_ 612 = .ok (.iconst 2, 1) := by decide +kernel
theorem dL_law__613 : decode cL_law_ 613 = .ok (.iadd, 1) := by decide +kernel
theorem dL_law__614 : decode cL_law_ 614 = .ok (.iaload, 1) := by decide +kernel
theorem dL_law__615 : decode cL_law_ 615 = .ok (.aload_n 0, 1) := by decide +kernel
theorem dL_law__616 : decode cL_law_ 616 = .ok (.iload 4, 2) := by decide +kernel
theorem dL_law__618 : decode cL_law_ 618 = .ok (.iconst 3, 1) := by decide +kernel
theorem dL_law__619 : decode cL_law_ 619 = .ok (.iadd, 1) := by decide +kernel
theorem dL_law__620 : decode cL_law_ 620 = .ok (.iaload, 1) := by decide +kernel
theorem dL_law__621 : decode cL_law_ 621 = .ok (.aload_n 3, 1) := by decide +kernel
theorem dL_law__622 : decode cL_law_ 622 = .ok (.invokestatic 145, 3) := by decide +kernel
theorem dL_law__625 : decode cL_law_ 625 = .ok (.istore 5, 2) := by decide +kernel
theorem dL_law__627 : decode cL_law_ 627 = .ok (.aload_n 2, 1) := by decide +kernel
theorem dL_law__628 : decode cL_law_ 628 = .ok (.aload_n 0, 1) := by decide +kernel
theorem dL_law__629 : decode cL_law_ 629 = .ok (.iload 4, 2) := by decide +kernel
theorem dL_law__631 : decode cL_law_ 631 = .ok (.iconst 1, 1) := by decide +kernel
theorem dL_law__632 : decode cL_law_ 632 = .ok (.iadd, 1) := by decide +kernel
theorem dL_law__633 : decode cL_law_ 633 = .ok (.iaload, 1) := by decide +kernel
theorem dL_law__634 : decode cL_law_ 634 = .ok (.aload_n 0, 1) := by decide +kernel
theorem dL_law__635 : decode cL_law_ 635 = .ok (.iload 4, 2) := by decide +kernel
theorem dL_law__637 : decode cL_law_ 637 = .ok (.iconst 2, 1) := by decide +kernel
theorem dL_law__638 : decode cL_law_ 638 = .ok (.iadd, 1) := by decide +kernel
theorem dL_law__639 : decode cL_law_ 639 = .ok (.iaload, 1) := by decide +kernel
theorem dL_law__640 : decode cL_law_ 640 = .ok (.aload_n 0, 1) := by decide +kernel
theorem dL_law__641 : decode cL_law_ 641 = .ok (.iload 4, 2) := by decide +kernel
theorem dL_law__643 : decode cL_law_ 643 = .ok (.iconst 3, 1) := by decide +kernel
theorem dL_law__644 : decode cL_law_ 644 = .ok (.iadd, 1) := by decide +kernel
theorem dL_law__645 : decode cL_law_ 645 = .ok (.iaload, 1) := by decide +kernel
theorem dL_law__646 : decode cL_law_ 646 = .ok (.invokevirtual 148, 3) := by decide +kernel
theorem dL_law__649 : decode cL_law_ 649 = .ok (.istore 6, 2) := by decide +kernel
theorem dL_law__651 : decode cL_law_ 651 = .ok (.aload_n 2, 1) := by decide +kernel
theorem dL_law__652 : decode cL_law_ 652 = .ok (.invokevirtual 124, 3) := by decide +kernel
theorem dL_law__655 : decode cL_law_ 655 = .ok (.iload 5, 2) := by decide +kernel
theorem dL_law__657 : decode cL_law_ 657 = .ok (.if_icmp .eq 5, 3) := by decide +kernel
theorem dL_law__660 : decode cL_law_ 660 = .ok (.iconst 0, 1) := by decide +kernel
theorem dL_law__661 : decode cL_law_ 661 = .ok (.ireturn, 1) := by decide +kernel
theorem dL_law__662 : decode cL_law_ 662 = .ok (.iload 5, 2) := by decide +kernel
theorem dL_law__664 : decode cL_law_ 664 = .ok (.ifCond .ne 15, 3) := by decide +kernel
theorem dL_law__667 : decode cL_law_ 667 = .ok (.aload_n 3, 1) := by decide +kernel
theorem dL_law__668 : decode cL_law_ 668 = .ok (.iconst 0, 1) := by decide +kernel
theorem dL_law__669 : decode cL_law_ 669 = .ok (.laload, 1) := by decide +kernel
theorem dL_law__670 : decode cL_law_ 670 = .ok (.iload 6, 2) := by decide +kernel
theorem dL_law__672 : decode cL_law_ 672 = .ok (.i2l, 1) := by decide +kernel
theorem dL_law__673 : decode cL_law_ 673 = .ok (.lcmp, 1) := by decide +kernel
theorem dL_law__674 : decode cL_law_ 674 = .ok (.ifCond .eq 5, 3) := by decide +kernel
theorem dL_law__677 : decode cL_law_ 677 = .ok (.iconst 0, 1) := by decide +kernel
theorem dL_law__678 : decode cL_law_ 678 = .ok (.ireturn, 1) := by decide +kernel
theorem dL_law__679 : decode cL_law_ 679 = .ok (.goto 1787, 3) := by decide +kernel
theorem dL_law__682 : decode cL_law_ 682 = .ok (.aload_n 1, 1) := by decide +kernel
theorem dL_law__683 : decode cL_law_ 683 = .ok (.aload_n 0, 1) := by decide +kernel
theorem dL_law__684 : decode cL_law_ 684 = .ok (.iload 4, 2) := by decide +kernel
theorem dL_law__686 : decode cL_law_ 686 = .ok (.iconst 1, 1) := by decide +kernel
theorem dL_law__687 : decode cL_law_ 687 = .ok (.iadd, 1) := by decide +kernel
theorem dL_law__688 : decode cL_law_ 688 = .ok (.iaload, 1) := by decide +kernel
theorem dL_law__689 : decode cL_law_ 689 = .ok (.aload_n 0, 1) := by decide +kernel
theorem dL_law__690 : decode cL_law_ 690 = .ok (.iload 4, 2) := by decide +kernel
theorem dL_law__692 : decode cL_law_ 692 = .ok (.iconst 2, 1) := by decide +kernel
theorem dL_law__693 : decode cL_law_ 693 = .ok (.iadd, 1) := by decide +kernel
theorem dL_law__694 : decode cL_law_ 694 = .ok (.iaload, 1) := by decide +kernel
theorem dL_law__695 : decode cL_law_ 695 = .ok (.aload_n 0, 1) := by decide +kernel
theorem dL_law__696 : decode cL_law_ 696 = .ok (.iload 4, 2) := by decide +kernel
theorem dL_law__698 : decode cL_law_ 698 = .ok (.iconst 3, 1) := by decide +kernel
theorem dL_law__699 : decode cL_law_ 699 = .ok (.iadd, 1) := by decide +kernel
theorem dL_law__700 : decode cL_law_ 700 = .ok (.iaload, 1) := by decide +kernel
theorem dL_law__701 : decode cL_law_ 701 = .ok (.aload_n 3, 1) := by decide +kernel
theorem dL_law__702 : decode cL_law_ 702 = .ok (.invokestatic 149, 3) := by decide +kernel
theorem dL_law__705 : decode cL_law_ 705 = .ok (.istore 5, 2) := by decide +kernel
theorem dL_law__707 : decode cL_law_ 707 = .ok (.aload_n 2, 1) := by decide +kernel
theorem dL_law__708 : decode cL_law_ 708 = .ok (.aload_n 0, 1) := by decide +kernel
theorem dL_law__709 : decode cL_law_ 709 = .ok (.iload 4, 2) := by decide +kernel
theorem dL_law__711 : decode cL_law_ 711 = .ok (.iconst 1, 1) := by decide +kernel
theorem dL_law__712 : decode cL_law_ 712 = .ok (.iadd, 1) := by decide +kernel
theorem dL_law__713 : decode cL_law_ 713 = .ok (.iaload, 1) := by decide +kernel
theorem dL_law__714 : decode cL_law_ 714 = .ok (.aload_n 0, 1) := by decide +kernel
theorem dL_law__715 : decode cL_law_ 715 = .ok (.iload 4, 2) := by decide +kernel
theorem dL_law__717 : decode cL_law_ 717 = .ok (.iconst 2, 1) := by decide +kernel
theorem dL_law__718 : decode cL_law_ 718 = .ok (.iadd, 1) := by decide +kernel
theorem dL_law__719 : decode cL_law_ 719 = .ok (.iaload, 1) := by decide +kernel
theorem dL_law__720 : decode cL_law_ 720 = .ok (.aload_n 0, 1) := by decide +kernel
theorem dL_law__721 : decode cL_law_ 721 = .ok (.iload 4, 2) := by decide +kernel
theorem dL_law__723 : decode cL_law_ 723 = .ok (.iconst 3, 1) := by decide +kernel
theorem dL_law__724 : decode cL_law_ 724 = .ok (.iadd, 1) := by decide +kernel
theorem dL_law__725 : decode cL_law_ 725 = .ok (.iaload, 1) := by decide +kernel
theorem dL_law__726 : decode cL_law_ 726 = .ok (.invokevirtual 151, 3) := by decide +kernel
theorem dL_law__729 : decode cL_law_ 729 = .ok (.istore 6, 2) := by decide +kernel
theorem dL_law__731 : decode cL_law_ 731 = .ok (.aload_n 2, 1) := by decide +kernel
theorem dL_law__732 : decode cL_law_ 732 = .ok (.invokevirtual 124, 3) := by decide +kernel
theorem dL_law__735 : decode cL_law_ 735 = .ok (.iload 5, 2) := by decide +kernel
theorem dL_law__737 : decode cL_law_ 737 = .ok (.if_icmp .eq 5, 3) := by decide +kernel
theorem dL_law__740 : decode cL_law_ 740 = .ok (.iconst 0, 1) := by decide +kernel
theorem dL_law__741 : decode cL_law_ 741 = .ok (.ireturn, 1) := by decide +kernel
theorem dL_law__742 : decode cL_law_ 742 = .ok (.iload 5, 2) := by decide +kernel
theorem dL_law__744 : decode cL_law_ 744 = .ok (.ifCond .ne 15, 3) := by decide +kernel
theorem dL_law__747 : decode cL_law_ 747 = .ok (.aload_n 3, 1) := by decide +kernel
theorem dL_law__748 : decode cL_law_ 748 = .ok (.iconst 0, 1) := by decide +kernel
theorem dL_law__749 : decode cL_law_ 749 = .ok (.laload, 1) := by decide +kernel
theorem dL_law__750 : decode cL_law_ 750 = .ok (.iload 6, 2) := by decide +kernel
theorem dL_law__752 : decode cL_law_ 752 = .ok (.i2l, 1) := by decide +kernel
theorem dL_law__753 : decode cL_law_ 753 = .ok (.lcmp, 1) := by decide +kernel
theorem dL_law__754 : decode cL_law_ 754 = .ok (.ifCond .eq 5, 3) := by decide +kernel
theorem dL_law__757 : decode cL_law_ 757 = .ok (.iconst 0, 1) := by decide +kernel
theorem dL_law__758 : decode cL_law_ 758 = .ok (.ireturn, 1) := by decide +kernel
theorem dL_law__759 : decode cL_law_ 759 = .ok (.goto 1707, 3) := by decide +kernel
theorem dL_law__762 : decode cL_law_ 762 = .ok (.aload_n 1, 1) := by decide +kernel
theorem dL_law__763 : decode cL_law_ 763 = .ok (.aload_n 0, 1) := by decide +kernel
theorem dL_law__764 : decode cL_law_ 764 = .ok (.iload 4, 2) := by decide +kernel
theorem dL_law__766 : decode cL_law_ 766 = .ok (.iconst 1, 1) := by decide +kernel
theorem dL_law__767 : decode cL_law_ 767 = .ok (.iadd, 1) := by decide +kernel
theorem dL_law__768 : decode cL_law_ 768 = .ok (.iaload, 1) := by decide +kernel
theorem dL_law__769 : decode cL_law_ 769 = .ok (.aload_n 0, 1) := by decide +kernel
theorem dL_law__770 : decode cL_law_ 770 = .ok (.iload 4, 2) := by decide +kernel
theorem dL_law__772 : decode cL_law_ 772 = .ok (.iconst 2, 1) := by decide +kernel
theorem dL_law__773 : decode cL_law_ 773 = .ok (.iadd, 1) := by decide +kernel
theorem dL_law__774 : decode cL_law_ 774 = .ok (.iaload, 1) := by decide +kernel
theorem dL_law__775 : decode cL_law_ 775 = .ok (.aload_n 0, 1) := by decide +kernel
theorem dL_law__776 : decode cL_law_ 776 = .ok (.iload 4, 2) := by decide +kernel
theorem dL_law__778 : decode cL_law_ 778 = .ok (.iconst 3, 1) := by decide +kernel
theorem dL_law__779 : decode cL_law_ 779 = .ok (.iadd, 1) := by decide +kernel
theorem dL_law__780 : decode cL_law_ 780 = .ok (.iaload, 1) := by decide +kernel
theorem dL_law__781 : decode cL_law_ 781 = .ok (.aload_n 0, 1) := by decide +kernel
theorem dL_law__782 : decode cL_law_ 782 = .ok (.iload 4, 2) := by decide +kernel
theorem dL_law__784 : decode cL_law_ 784 = .ok (.iconst 4, 1) := by decide +kernel
theorem dL_law__785 : decode cL_law_ 785 = .ok (.iadd, 1) := by decide +kernel
theorem dL_law__786 : decode cL_law_ 786 = .ok (.iaload, 1) := by decide +kernel
theorem dL_law__787 : decode cL_law_ 787 = .ok (.aload_n 3, 1) := by decide +kernel
theorem dL_law__788 : decode cL_law_ 788 = .ok (.invokestatic 152, 3) := by decide +kernel
theorem dL_law__791 : decode cL_law_ 791 = .ok (.istore 5, 2) := by decide +kernel
theorem dL_law__793 : decode cL_law_ 793 = .ok (.aload_n 2, 1) := by decide +kernel
theorem dL_law__794 : decode cL_law_ 794 = .ok (.aload_n 0, 1) := by decide +kernel
theorem dL_law__795 : decode cL_law_ 795 = .ok (.iload 4, 2) := by decide +kernel
theorem dL_law__797 : decode cL_law_ 797 = .ok (.iconst 1, 1) := by decide +kernel
theorem dL_law__798 : decode cL_law_ 798 = .ok (.iadd, 1) := by decide +kernel
theorem dL_law__799 : decode cL_law_ 799 = .ok (.iaload, 1) := by decide +kernel
theorem dL_law__800 : decode cL_law_ 800 = .ok (.aload_n 0, 1) := by decide +kernel
theorem dL_law__801 : decode cL_law_ 801 = .ok (.iload 4, 2) := by decide +kernel
theorem dL_law__803 : decode cL_law_ 803 = .ok (.iconst 2, 1) := by decide +kernel
theorem dL_law__804 : decode cL_law_ 804 = .ok (.iadd, 1) := by decide +kernel
theorem dL_law__805 : decode cL_law_ 805 = .ok (.iaload, 1) := by decide +kernel
theorem dL_law__806 : decode cL_law_ 806 = .ok (.aload_n 0, 1) := by decide +kernel
theorem dL_law__807 : decode cL_law_ 807 = .ok (.iload 4, 2) := by decide +kernel
theorem dL_law__809 : decode cL_law_ 809 = .ok (.iconst 3, 1) := by decide +kernel
theorem dL_law__810 : decode cL_law_ 810 = .ok (.iadd, 1) := by decide +kernel
theorem dL_law__811 : decode cL_law_ 811 = .ok (.iaload, 1) := by decide +kernel
theorem dL_law__812 : decode cL_law_ 812 = .ok (.aload_n 0, 1) := by decide +kernel
theorem dL_law__813 : decode cL_law_ 813 = .ok (.iload 4, 2) := by decide +kernel
theorem dL_law__815 : decode cL_law_ 815 = .ok (.iconst 4, 1) := by decide +kernel
theorem dL_law__816 : decode cL_law_ 816 = .ok (.iadd, 1) := by decide +kernel
theorem dL_law__817 : decode cL_law_ 817 = .ok (.iaload, 1) := by decide +kernel
theorem dL_law__818 : decode cL_law_ 818 = .ok (.invokevirtual 155, 3) := by decide +kernel
theorem dL_law__821 : decode cL_law_ 821 = .ok (.istore 6, 2) := by decide +kernel
theorem dL_law__823 : decode cL_law_ 823 = .ok (.aload_n 2, 1) := by decide +kernel
theorem dL_law__824 : decode cL_law_ 824 = .ok (.invokevirtual 124, 3) := by decide +kernel
theorem dL_law__827 : decode cL_law_ 827 = .ok (.iload 5, 2) := by decide +kernel
theorem dL_law__829 : decode cL_law_ 829 = .ok (.if_icmp .eq 5, 3) := by decide +kernel
theorem dL_law__832 : decode cL_law_ 832 = .ok (.iconst 0, 1) := by decide +kernel
theorem dL_law__833 : decode cL_law_ 833 = .ok (.ireturn, 1) := by decide +kernel
theorem dL_law__834 : decode cL_law_ 834 = .ok (.iload 5, 2) := by decide +kernel
theorem dL_law__836 : decode cL_law_ 836 = .ok (.ifCond .ne 15, 3) := by decide +kernel
theorem dL_law__839 : decode cL_law_ 839 = .ok (.aload_n 3, 1) := by decide +kernel
theorem dL_law__840 : decode cL_law_ 840 = .ok (.iconst 0, 1) := by decide +kernel
theorem dL_law__841 : decode cL_law_ 841 = .ok (.laload, 1) := by decide +kernel
theorem dL_law__842 : decode cL_law_ 842 = .ok (.iload 6, 2) := by decide +kernel
theorem dL_law__844 : decode cL_law_ 844 = .ok (.i2l, 1) := by decide +kernel
theorem dL_law__845 : decode cL_law_ 845 = .ok (.lcmp, 1) := by decide +kernel
theorem dL_law__846 : decode cL_law_ 846 = .ok (.ifCond .eq 5, 3) := by decide +kernel
theorem dL_law__849 : decode cL_law_ 849 = .ok (.iconst 0, 1) := by decide +kernel
theorem dL_law__850 : decode cL_law_ 850 = .ok (.ireturn, 1) := by decide +kernel
theorem dL_law__851 : decode cL_law_ 851 = .ok (.goto 1615, 3) := by decide +kernel
theorem dL_law__854 : decode cL_law_ 854 = .ok (.aload_n 1, 1) := by decide +kernel
theorem dL_law__855 : decode cL_law_ 855 = .ok (.aload_n 0, 1) := by decide +kernel
theorem dL_law__856 : decode cL_law_ 856 = .ok (.iload 4, 2) := by decide +kernel
theorem dL_law__858 : decode cL_law_ 858 = .ok (.iconst 1, 1) := by decide +kernel
theorem dL_law__859 : decode cL_law_ 859 = .ok (.iadd, 1) := by decide +kernel
theorem dL_law__860 : decode cL_law_ 860 = .ok (.iaload, 1) := by decide +kernel
theorem dL_law__861 : decode cL_law_ 861 = .ok (.aload_n 3, 1) := by decide +kernel
theorem dL_law__862 : decode cL_law_ 862 = .ok (.invokestatic 156, 3) := by decide +kernel
theorem dL_law__865 : decode cL_law_ 865 = .ok (.istore 5, 2) := by decide +kernel
theorem dL_law__867 : decode cL_law_ 867 = .ok (.aload_n 2, 1) := by decide +kernel
theorem dL_law__868 : decode cL_law_ 868 = .ok (.aload_n 0, 1) := by decide +kernel
theorem dL_law__869 : decode cL_law_ 869 = .ok (.iload 4, 2) := by decide +kernel
theorem dL_law__871 : decode cL_law_ 871 = .ok (.iconst 1, 1) := by decide +kernel
theorem dL_law__872 : decode cL_law_ 872 = .ok (.iadd, 1) := by decide +kernel
theorem dL_law__873 : decode cL_law_ 873 = .ok (.iaload, 1) := by decide +kernel
theorem dL_law__874 : decode cL_law_ 874 = .ok (.invokevirtual 158, 3) := by decide +kernel
theorem dL_law__877 : decode cL_law_ 877 = .ok (.istore 6, 2) := by decide +kernel
theorem dL_law__879 : decode cL_law_ 879 = .ok (.aload_n 2, 1) := by decide +kernel
theorem dL_law__880 : decode cL_law_ 880 = .ok (.invokevirtual 124, 3) := by decide +kernel
theorem dL_law__883 : decode cL_law_ 883 = .ok (.iload 5, 2) := by decide +kernel
theorem dL_law__885 : decode cL_law_ 885 = .ok (.if_icmp .eq 5, 3) := by decide +kernel
theorem dL_law__888 : decode cL_law_ 888 = .ok (.iconst 0, 1) := by decide +kernel
theorem dL_law__889 : decode cL_law_ 889 = .ok (.ireturn, 1) := by decide +kernel
theorem dL_law__890 : decode cL_law_ 890 = .ok (.iload 5, 2) := by decide +kernel
theorem dL_law__892 : decode cL_law_ 892 = .ok (.ifCond .ne 15, 3) := by decide +kernel
theorem dL_law__895 : decode cL_law_ 895 = .ok (.aload_n 3, 1) := by decide +kernel
theorem dL_law__896 : decode cL_law_ 896 = .ok (.iconst 0, 1) := by decide +kernel
theorem dL_law__897 : decode cL_law_ 897 = .ok (.laload, 1) := by decide +kernel
theorem dL_law__898 : decode cL_law_ 898 = .ok (.iload 6, 2) := by decide +kernel
theorem dL_law__900 : decode cL_law_ 900 = .ok (.i2l, 1) := by decide +kernel
theorem dL_law__901 : decode cL_law_ 901 = .ok (.lcmp, 1) := by decide +kernel
theorem dL_law__902 : decode cL_law_ 902 = .ok (.ifCond .eq 5, 3) := by decide +kernel
theorem dL_law__905 : decode cL_law_ 905 = .ok (.iconst 0, 1) := by decide +kernel
theorem dL_law__906 : decode cL_law_ 906 = .ok (.ireturn, 1) := by decide +kernel
theorem dL_law__907 : decode cL_law_ 907 = .ok (.goto 1559, 3) := by decide +kernel
theorem dL_law__910 : decode cL_law_ 910 = .ok (.aload_n 1, 1) := by decide +kernel
theorem dL_law__911 : decode cL_law_ 911 = .ok (.aload_n 0, 1) := by decide +kernel
theorem dL_law__912 : decode cL_law_ 912 = .ok (.iload 4, 2) := by decide +kernel
theorem dL_law__914 : decode cL_law_ 914 = .ok (.iconst 1, 1) := by decide +kernel
theorem dL_law__915 : decode cL_law_ 915 = .ok (.iadd, 1) := by decide +kernel
theorem dL_law__916 : decode cL_law_ 916 = .ok (.iaload, 1) := by decide +kernel
theorem dL_law__917 : decode cL_law_ 917 = .ok (.aload_n 0, 1) := by decide +kernel
theorem dL_law__918 : decode cL_law_ 918 = .ok (.iload 4, 2) := by decide +kernel
theorem dL_law__920 : decode cL_law_ 920 = .ok (.iconst 2, 1) := by decide +kernel
theorem dL_law__921 : decode cL_law_ 921 = .ok (.iadd, 1) := by decide +kernel
theorem dL_law__922 : decode cL_law_ 922 = .ok (.iaload, 1) := by decide +kernel
theorem dL_law__923 : decode cL_law_ 923 = .ok (.aload_n 0, 1) := by decide +kernel
theorem dL_law__924 : decode cL_law_ 924 = .ok (.iload 4, 2) := by decide +kernel
theorem dL_law__926 : decode cL_law_ 926 = .ok (.iconst 3, 1) := by decide +kernel
theorem dL_law__927 : decode cL_law_ 927 = .ok (.iadd, 1) := by decide +kernel
theorem dL_law__928 : decode cL_law_ 928 = .ok (.iaload, 1) := by decide +kernel
theorem dL_law__929 : decode cL_law_ 929 = .ok (.aload_n 3, 1) := by decide +kernel
theorem dL_law__930 : decode cL_law_ 930 = .ok (.invokestatic 159, 3) := by decide +kernel
theorem dL_law__933 : decode cL_law_ 933 = .ok (.istore 5, 2) := by decide +kernel
theorem dL_law__935 : decode cL_law_ 935 = .ok (.aload_n 2, 1) := by decide +kernel
theorem dL_law__936 : decode cL_law_ 936 = .ok (.aload_n 0, 1) := by decide +kernel
theorem dL_law__937 : decode cL_law_ 937 = .ok (.iload 4, 2) := by decide +kernel
theorem dL_law__939 : decode cL_law_ 939 = .ok (.iconst 1, 1) := by decide +kernel
theorem dL_law__940 : decode cL_law_ 940 = .ok (.iadd, 1) := by decide +kernel
theorem dL_law__941 : decode cL_law_ 941 = .ok (.iaload, 1) := by decide +kernel
theorem dL_law__942 : decode cL_law_ 942 = .ok (.aload_n 0, 1) := by decide +kernel
theorem dL_law__943 : decode cL_law_ 943 = .ok (.iload 4, 2) := by decide +kernel
theorem dL_law__945 : decode cL_law_ 945 = .ok (.iconst 2, 1) := by decide +kernel
theorem dL_law__946 : decode cL_law_ 946 = .ok (.iadd, 1) := by decide +kernel
theorem dL_law__947 : decode cL_law_ 947 = .ok (.iaload, 1) := by decide +kernel
theorem dL_law__948 : decode cL_law_ 948 = .ok (.aload_n 0, 1) := by decide +kernel
theorem dL_law__949 : decode cL_law_ 949 = .ok (.iload 4, 2) := by decide +kernel
theorem dL_law__951 : decode cL_law_ 951 = .ok (.iconst 3, 1) := by decide +kernel
theorem dL_law__952 : decode cL_law_ 952 = .ok (.iadd, 1) := by decide +kernel
theorem dL_law__953 : decode cL_law_ 953 = .ok (.iaload, 1) := by decide +kernel
theorem dL_law__954 : decode cL_law_ 954 = .ok (.invokevirtual 161, 3) := by decide +kernel
theorem dL_law__957 : decode cL_law_ 957 = .ok (.istore 6, 2) := by decide +kernel
theorem dL_law__959 : decode cL_law_ 959 = .ok (.aload_n 2, 1) := by decide +kernel
theorem dL_law__960 : decode cL_law_ 960 = .ok (.invokevirtual 124, 3) := by decide +kernel
theorem dL_law__963 : decode cL_law_ 963 = .ok (.iload 5, 2) := by decide +kernel
theorem dL_law__965 : decode cL_law_ 965 = .ok (.if_icmp .eq 5, 3) := by decide +kernel
theorem dL_law__968 : decode cL_law_ 968 = .ok (.iconst 0, 1) := by decide +kernel
theorem dL_law__969 : decode cL_law_ 969 = .ok (.ireturn, 1) := by decide +kernel
theorem dL_law__970 : decode cL_law_ 970 = .ok (.iload 5, 2) := by decide +kernel
theorem dL_law__972 : decode cL_law_ 972 = .ok (.ifCond .ne 15, 3) := by decide +kernel
theorem dL_law__975 : decode cL_law_ 975 = .ok (.aload_n 3, 1) := by decide +kernel
theorem dL_law__976 : decode cL_law_ 976 = .ok (.iconst 0, 1) := by decide +kernel
theorem dL_law__977 : decode cL_law_ 977 = .ok (.laload, 1) := by decide +kernel
theorem dL_law__978 : decode cL_law_ 978 = .ok (.iload 6, 2) := by decide +kernel
theorem dL_law__980 : decode cL_law_ 980 = .ok (.i2l, 1) := by decide +kernel
theorem dL_law__981 : decode cL_law_ 981 = .ok (.lcmp, 1) := by decide +kernel
theorem dL_law__982 : decode cL_law_ 982 = .ok (.ifCond .eq 5, 3) := by decide +kernel
theorem dL_law__985 : decode cL_law_ 985 = .ok (.iconst 0, 1) := by decide +kernel
theorem dL_law__986 : decode cL_law_ 986 = .ok (.ireturn, 1) := by decide +kernel
theorem dL_law__987 : decode cL_law_ 987 = .ok (.goto 1479, 3) := by decide +kernel
theorem dL_law__990 : decode cL_law_ 990 = .ok (.aload_n 1, 1) := by decide +kernel
theorem dL_law__991 : decode cL_law_ 991 = .ok (.aload_n 0, 1) := by decide +kernel
theorem dL_law__992 : decode cL_law_ 992 = .ok (.iload 4, 2) := by decide +kernel
theorem dL_law__994 : decode cL_law_ 994 = .ok (.iconst 1, 1) := by decide +kernel
theorem dL_law__995 : decode cL_law_ 995 = .ok (.iadd, 1) := by decide +kernel
theorem dL_law__996 : decode cL_law_ 996 = .ok (.iaload, 1) := by decide +kernel
theorem dL_law__997 : decode cL_law_ 997 = .ok (.aload_n 0, 1) := by decide +kernel
theorem dL_law__998 : decode cL_law_ 998 = .ok (.iload 4, 2) := by decide +kernel
theorem dL_law__1000 : decode cL_law_ 1000 = .ok (.iconst 2, 1) := by decide +kernel
theorem dL_law__1001 : decode cL_law_ 1001 = .ok (.iadd, 1) := by decide +kernel
theorem dL_law__1002 : decode cL_law_ 1002 = .ok (.iaload, 1) := by decide +kernel
theorem dL_law__1003 : decode cL_law_ 1003 = .ok (.aload_n 3, 1) := by decide +kernel
theorem dL_law__1004 : decode cL_law_ 1004 = .ok (.invokestatic 162, 3) := by decide +kernel
theorem dL_law__1007 : decode cL_law_ 1007 = .ok (.istore 5, 2) := by decide +kernel
theorem dL_law__1009 : decode cL_law_ 1009 = .ok (.aload_n 2, 1) := by decide +kernel
theorem dL_law__1010 : decode cL_law_ 1010 = .ok (.aload_n 0, 1) := by decide +kernel
theorem dL_law__1011 : decode cL_law_ 1011 = .ok (.iload 4, 2) := by decide +kernel
theorem dL_law__1013 : decode cL_law_ 1013 = .ok (.iconst 1, 1) := by decide +kernel
theorem dL_law__1014 : decode cL_law_ 1014 = .ok (.iadd, 1) := by decide +kernel
theorem dL_law__1015 : decode cL_law_ 1015 = .ok (.iaload, 1) := by decide +kernel
theorem dL_law__1016 : decode cL_law_ 1016 = .ok (.aload_n 0, 1) := by decide +kernel
theorem dL_law__1017 : decode cL_law_ 1017 = .ok (.iload 4, 2) := by decide +kernel
theorem dL_law__1019 : decode cL_law_ 1019 = .ok (.iconst 2, 1) := by decide +kernel
theorem dL_law__1020 : decode cL_law_ 1020 = .ok (.iadd, 1) := by decide +kernel
theorem dL_law__1021 : decode cL_law_ 1021 = .ok (.iaload, 1) := by decide +kernel
theorem dL_law__1022 : decode cL_law_ 1022 = .ok (.invokevirtual 164, 3) := by decide +kernel
theorem dL_law__1025 : decode cL_law_ 1025 = .ok (.istore 6, 2) := by decide +kernel
theorem dL_law__1027 : decode cL_law_ 1027 = .ok (.aload_n 2, 1) := by decide +kernel
theorem dL_law__1028 : decode cL_law_ 1028 = .ok (.invokevirtual 124, 3) := by decide +kernel
theorem dL_law__1031 : decode cL_law_ 1031 = .ok (.iload 5, 2) := by decide +kernel
theorem dL_law__1033 : decode cL_law_ 1033 = .ok (.if_icmp .eq 5, 3) := by decide +kernel
theorem dL_law__1036 : decode cL_law_ 1036 = .ok (.iconst 0, 1) := by decide +kernel
theorem dL_law__1037 : decode cL_law_ 1037 = .ok (.ireturn, 1) := by decide +kernel
theorem dL_law__1038 : decode cL_law_ 1038 = .ok (.iload 5, 2) := by decide +kernel
theorem dL_law__1040 : decode cL_law_ 1040 = .ok (.ifCond .ne 15, 3) := by decide +kernel
theorem dL_law__1043 : decode cL_law_ 1043 = .ok (.aload_n 3, 1) := by decide +kernel
theorem dL_law__1044 : decode cL_law_ 1044 = .ok (.iconst 0, 1) := by decide +kernel
theorem dL_law__1045 : decode cL_law_ 1045 = .ok (.laload, 1) := by decide +kernel
theorem dL_law__1046 : decode cL_law_ 1046 = .ok (.iload 6, 2) := by decide +kernel
theorem dL_law__1048 : decode cL_law_ 1048 = .ok (.i2l, 1) := by decide +kernel
theorem dL_law__1049 : decode cL_law_ 1049 = .ok (.lcmp, 1) := by decide +kernel
theorem dL_law__1050 : decode cL_law_ 1050 = .ok (.ifCond .eq 5, 3) := by decide +kernel
theorem dL_law__1053 : decode cL_law_ 1053 = .ok (.iconst 0, 1) := by decide +kernel
theorem dL_law__1054 : decode cL_law_ 1054 = .ok (.ireturn, 1) := by decide +kernel
theorem dL_law__1055 : decode cL_law_ 1055 = .ok (.goto 1411, 3) := by decide +kernel
theorem dL_law__1058 : decode cL_law_ 1058 = .ok (.aload_n 1, 1) := by decide +kernel
theorem dL_law__1059 : decode cL_law_ 1059 = .ok (.aload_n 0, 1) := by decide +kernel
theorem dL_law__1060 : decode cL_law_ 1060 = .ok (.iload 4, 2) := by decide +kernel
theorem dL_law__1062 : decode cL_law_ 1062 = .ok (.iconst 1, 1) := by decide +kernel
theorem dL_law__1063 : decode cL_law_ 1063 = .ok (.iadd, 1) := by decide +kernel
theorem dL_law__1064 : decode cL_law_ 1064 = .ok (.iaload, 1) := by decide +kernel
theorem dL_law__1065 : decode cL_law_ 1065 = .ok (.aload_n 0, 1) := by decide +kernel
theorem dL_law__1066 : decode cL_law_ 1066 = .ok (.iload 4, 2) := by decide +kernel
theorem dL_law__1068 : decode cL_law_ 1068 = .ok (.iconst 2, 1) := by decide +kernel
theorem dL_law__1069 : decode cL_law_ 1069 = .ok (.iadd, 1) := by decide +kernel
theorem dL_law__1070 : decode cL_law_ 1070 = .ok (.iaload, 1) := by decide +kernel
theorem dL_law__1071 : decode cL_law_ 1071 = .ok (.aload_n 0, 1) := by decide +kernel
theorem dL_law__1072 : decode cL_law_ 1072 = .ok (.iload 4, 2) := by decide +kernel
theorem dL_law__1074 : decode cL_law_ 1074 = .ok (.iconst 3, 1) := by decide +kernel
theorem dL_law__1075 : decode cL_law_ 1075 = .ok (.iadd, 1) := by decide +kernel
theorem dL_law__1076 : decode cL_law_ 1076 = .ok (.iaload, 1) := by decide +kernel
theorem dL_law__1077 : decode cL_law_ 1077 = .ok (.aload_n 3, 1) := by decide +kernel
theorem dL_law__1078 : decode cL_law_ 1078 = .ok (.invokestatic 165, 3) := by decide +kernel
theorem dL_law__1081 : decode cL_law_ 1081 = .ok (.istore 5, 2) := by decide +kernel
theorem dL_law__1083 : decode cL_law_ 1083 = .ok (.aload_n 2, 1) := by decide +kernel
theorem dL_law__1084 : decode cL_law_ 1084 = .ok (.aload_n 0, 1) := by decide +kernel
theorem dL_law__1085 : decode cL_law_ 1085 = .ok (.iload 4, 2) := by decide +kernel
theorem dL_law__1087 : decode cL_law_ 1087 = .ok (.iconst 1, 1) := by decide +kernel
theorem dL_law__1088 : decode cL_law_ 1088 = .ok (.iadd, 1) := by decide +kernel
theorem dL_law__1089 : decode cL_law_ 1089 = .ok (.iaload, 1) := by decide +kernel
theorem dL_law__1090 : decode cL_law_ 1090 = .ok (.aload_n 0, 1) := by decide +kernel
theorem dL_law__1091 : decode cL_law_ 1091 = .ok (.iload 4, 2) := by decide +kernel
theorem dL_law__1093 : decode cL_law_ 1093 = .ok (.iconst 2, 1) := by decide +kernel
theorem dL_law__1094 : decode cL_law_ 1094 = .ok (.iadd, 1) := by decide +kernel
theorem dL_law__1095 : decode cL_law_ 1095 = .ok (.iaload, 1) := by decide +kernel
theorem dL_law__1096 : decode cL_law_ 1096 = .ok (.aload_n 0, 1) := by decide +kernel
theorem dL_law__1097 : decode cL_law_ 1097 = .ok (.iload 4, 2) := by decide +kernel
theorem dL_law__1099 : decode cL_law_ 1099 = .ok (.iconst 3, 1) := by decide +kernel
theorem dL_law__1100 : decode cL_law_ 1100 = .ok (.iadd, 1) := by decide +kernel
theorem dL_law__1101 : decode cL_law_ 1101 = .ok (.iaload, 1) := by decide +kernel
theorem dL_law__1102 : decode cL_law_ 1102 = .ok (.invokevirtual 167, 3) := by decide +kernel
theorem dL_law__1105 : decode cL_law_ 1105 = .ok (.istore 6, 2) := by decide +kernel
theorem dL_law__1107 : decode cL_law_ 1107 = .ok (.aload_n 2, 1) := by decide +kernel
theorem dL_law__1108 : decode cL_law_ 1108 = .ok (.invokevirtual 124, 3) := by decide +kernel
theorem dL_law__1111 : decode cL_law_ 1111 = .ok (.iload 5, 2) := by decide +kernel
theorem dL_law__1113 : decode cL_law_ 1113 = .ok (.if_icmp .eq 5, 3) := by decide +kernel
theorem dL_law__1116 : decode cL_law_ 1116 = .ok (.iconst 0, 1) := by decide +kernel
theorem dL_law__1117 : decode cL_law_ 1117 = .ok (.ireturn, 1) := by decide +kernel
theorem dL_law__1118 : decode cL_law_ 1118 = .ok (.iload 5, 2) := by decide +kernel
theorem dL_law__1120 : decode cL_law_ 1120 = .ok (.ifCond .ne 22, 3) := by decide +kernel
theorem dL_law__1123 : decode cL_law_ 1123 = .ok (.aload_n 3, 1) := by decide +kernel
theorem dL_law__1124 : decode cL_law_ 1124 = .ok (.iconst 0, 1) := by decide +kernel
theorem dL_law__1125 : decode cL_law_ 1125 = .ok (.laload, 1) := by decide +kernel
theorem dL_law__1126 : decode cL_law_ 1126 = .ok (.iload 6, 2) := by decide +kernel
theorem dL_law__1128 : decode cL_law_ 1128 = .ok (.ifCond .eq 7, 3) := by decide +kernel
theorem dL_law__1131 : decode cL_law_ 1131 = .ok (.lconst 1, 1) := by decide +kernel
theorem dL_law__1132 : decode cL_law_ 1132 = .ok (.goto 4, 3) := by decide +kernel
theorem dL_law__1135 : decode cL_law_ 1135 = .ok (.lconst 0, 1) := by decide +kernel
theorem dL_law__1136 : decode cL_law_ 1136 = .ok (.lcmp, 1) := by decide +kernel
theorem dL_law__1137 : decode cL_law_ 1137 = .ok (.ifCond .eq 5, 3) := by decide +kernel
theorem dL_law__1140 : decode cL_law_ 1140 = .ok (.iconst 0, 1) := by decide +kernel
theorem dL_law__1141 : decode cL_law_ 1141 = .ok (.ireturn, 1) := by decide +kernel
theorem dL_law__1142 : decode cL_law_ 1142 = .ok (.goto 1324, 3) := by decide +kernel
theorem dL_law__1145 : decode cL_law_ 1145 = .ok (.aload_n 1, 1) := by decide +kernel
theorem dL_law__1146 : decode cL_law_ 1146 = .ok (.aload_n 0, 1) := by decide +kernel
theorem dL_law__1147 : decode cL_law_ 1147 = .ok (.iload 4, 2) := by decide +kernel
theorem dL_law__1149 : decode cL_law_ 1149 = .ok (.iconst 1, 1) := by decide +kernel
theorem dL_law__1150 : decode cL_law_ 1150 = .ok (.iadd, 1) := by decide +kernel
theorem dL_law__1151 : decode cL_law_ 1151 = .ok (.iaload, 1) := by decide +kernel
theorem dL_law__1152 : decode cL_law_ 1152 = .ok (.aload_n 0, 1) := by decide +kernel
theorem dL_law__1153 : decode cL_law_ 1153 = .ok (.iload 4, 2) := by decide +kernel
theorem dL_law__1155 : decode cL_law_ 1155 = .ok (.iconst 2, 1) := by decide +kernel
theorem dL_law__1156 : decode cL_law_ 1156 = .ok (.iadd, 1) := by decide +kernel
theorem dL_law__1157 : decode cL_law_ 1157 = .ok (.iaload, 1) := by decide +kernel
theorem dL_law__1158 : decode cL_law_ 1158 = .ok (.aload_n 0, 1) := by decide +kernel
theorem dL_law__1159 : decode cL_law_ 1159 = .ok (.iload 4, 2) := by decide +kernel
theorem dL_law__1161 : decode cL_law_ 1161 = .ok (.iconst 3, 1) := by decide +kernel
theorem dL_law__1162 : decode cL_law_ 1162 = .ok (.iadd, 1) := by decide +kernel
theorem dL_law__1163 : decode cL_law_ 1163 = .ok (.iaload, 1) := by decide +kernel
theorem dL_law__1164 : decode cL_law_ 1164 = .ok (.aload_n 3, 1) := by decide +kernel
theorem dL_law__1165 : decode cL_law_ 1165 = .ok (.invokestatic 168, 3) := by decide +kernel
theorem dL_law__1168 : decode cL_law_ 1168 = .ok (.istore 5, 2) := by decide +kernel
theorem dL_law__1170 : decode cL_law_ 1170 = .ok (.aload_n 2, 1) := by decide +kernel
theorem dL_law__1171 : decode cL_law_ 1171 = .ok (.aload_n 0, 1) := by decide +kernel
theorem dL_law__1172 : decode cL_law_ 1172 = .ok (.iload 4, 2) := by decide +kernel
theorem dL_law__1174 : decode cL_law_ 1174 = .ok (.iconst 1, 1) := by decide +kernel
theorem dL_law__1175 : decode cL_law_ 1175 = .ok (.iadd, 1) := by decide +kernel
theorem dL_law__1176 : decode cL_law_ 1176 = .ok (.iaload, 1) := by decide +kernel
theorem dL_law__1177 : decode cL_law_ 1177 = .ok (.aload_n 0, 1) := by decide +kernel
theorem dL_law__1178 : decode cL_law_ 1178 = .ok (.iload 4, 2) := by decide +kernel
theorem dL_law__1180 : decode cL_law_ 1180 = .ok (.iconst 2, 1) := by decide +kernel
theorem dL_law__1181 : decode cL_law_ 1181 = .ok (.iadd, 1) := by decide +kernel
theorem dL_law__1182 : decode cL_law_ 1182 = .ok (.iaload, 1) := by decide +kernel
theorem dL_law__1183 : decode cL_law_ 1183 = .ok (.aload_n 0, 1) := by decide +kernel
theorem dL_law__1184 : decode cL_law_ 1184 = .ok (.iload 4, 2) := by decide +kernel
theorem dL_law__1186 : decode cL_law_ 1186 = .ok (.iconst 3, 1) := by decide +kernel
theorem dL_law__1187 : decode cL_law_ 1187 = .ok (.iadd, 1) := by decide +kernel
theorem dL_law__1188 : decode cL_law_ 1188 = .ok (.iaload, 1) := by decide +kernel
theorem dL_law__1189 : decode cL_law_ 1189 = .ok (.invokevirtual 170, 3) := by decide +kernel
theorem dL_law__1192 : decode cL_law_ 1192 = .ok (.istore 6, 2) := by decide +kernel
theorem dL_law__1194 : decode cL_law_ 1194 = .ok (.aload_n 2, 1) := by decide +kernel
theorem dL_law__1195 : decode cL_law_ 1195 = .ok (.invokevirtual 124, 3) := by decide +kernel
theorem dL_law__1198 : decode cL_law_ 1198 = .ok (.iload 5, 2) := by decide +kernel
theorem dL_law__1200 : decode cL_law_ 1200 = .ok (.if_icmp .eq 5, 3) := by decide +kernel
theorem dL_law__1203 : decode cL_law_ 1203 = .ok (.iconst 0, 1) := by decide +kernel
theorem dL_law__1204 : decode cL_law_ 1204 = .ok (.ireturn, 1) := by decide +kernel
theorem dL_law__1205 : decode cL_law_ 1205 = .ok (.iload 5, 2) := by decide +kernel
theorem dL_law__1207 : decode cL_law_ 1207 = .ok (.ifCond .ne 15, 3) := by decide +kernel
theorem dL_law__1210 : decode cL_law_ 1210 = .ok (.aload_n 3, 1) := by decide +kernel
theorem dL_law__1211 : decode cL_law_ 1211 = .ok (.iconst 0, 1) := by decide +kernel
theorem dL_law__1212 : decode cL_law_ 1212 = .ok (.laload, 1) := by decide +kernel
theorem dL_law__1213 : decode cL_law_ 1213 = .ok (.iload 6, 2) := by decide +kernel
theorem dL_law__1215 : decode cL_law_ 1215 = .ok (.i2l, 1) := by decide +kernel
theorem dL_law__1216 : decode cL_law_ 1216 = .ok (.lcmp, 1) := by decide +kernel
theorem dL_law__1217 : decode cL_law_ 1217 = .ok (.ifCond .eq 5, 3) := by decide +kernel
theorem dL_law__1220 : decode cL_law_ 1220 = .ok (.iconst 0, 1) := by decide +kernel
theorem dL_law__1221 : decode cL_law_ 1221 = .ok (.ireturn, 1) := by decide +kernel
theorem dL_law__1222 : decode cL_law_ 1222 = .ok (.goto 1244, 3) := by decide +kernel
theorem dL_law__1225 : decode cL_law_ 1225 = .ok (.aload_n 1, 1) := by decide +kernel
theorem dL_law__1226 : decode cL_law_ 1226 = .ok (.aload_n 0, 1) := by decide +kernel
theorem dL_law__1227 : decode cL_law_ 1227 = .ok (.iload 4, 2) := by decide +kernel
theorem dL_law__1229 : decode cL_law_ 1229 = .ok (.iconst 1, 1) := by decide +kernel
theorem dL_law__1230 : decode cL_law_ 1230 = .ok (.iadd, 1) := by decide +kernel
theorem dL_law__1231 : decode cL_law_ 1231 = .ok (.iaload, 1) := by decide +kernel
theorem dL_law__1232 : decode cL_law_ 1232 = .ok (.aload_n 0, 1) := by decide +kernel
theorem dL_law__1233 : decode cL_law_ 1233 = .ok (.iload 4, 2) := by decide +kernel
theorem dL_law__1235 : decode cL_law_ 1235 = .ok (.iconst 2, 1) := by decide +kernel
theorem dL_law__1236 : decode cL_law_ 1236 = .ok (.iadd, 1) := by decide +kernel
theorem dL_law__1237 : decode cL_law_ 1237 = .ok (.iaload, 1) := by decide +kernel
theorem dL_law__1238 : decode cL_law_ 1238 = .ok (.aload_n 3, 1) := by decide +kernel
theorem dL_law__1239 : decode cL_law_ 1239 = .ok (.invokestatic 171, 3) := by decide +kernel
theorem dL_law__1242 : decode cL_law_ 1242 = .ok (.istore 5, 2) := by decide +kernel
theorem dL_law__1244 : decode cL_law_ 1244 = .ok (.aload_n 2, 1) := by decide +kernel
theorem dL_law__1245 : decode cL_law_ 1245 = .ok (.aload_n 0, 1) := by decide +kernel
theorem dL_law__1246 : decode cL_law_ 1246 = .ok (.iload 4, 2) := by decide +kernel
theorem dL_law__1248 : decode cL_law_ 1248 = .ok (.iconst 1, 1) := by decide +kernel
theorem dL_law__1249 : decode cL_law_ 1249 = .ok (.iadd, 1) := by decide +kernel
theorem dL_law__1250 : decode cL_law_ 1250 = .ok (.iaload, 1) := by decide +kernel
theorem dL_law__1251 : decode cL_law_ 1251 = .ok (.aload_n 0, 1) := by decide +kernel
theorem dL_law__1252 : decode cL_law_ 1252 = .ok (.iload 4, 2) := by decide +kernel
theorem dL_law__1254 : decode cL_law_ 1254 = .ok (.iconst 2, 1) := by decide +kernel
theorem dL_law__1255 : decode cL_law_ 1255 = .ok (.iadd, 1) := by decide +kernel
theorem dL_law__1256 : decode cL_law_ 1256 = .ok (.iaload, 1) := by decide +kernel
theorem dL_law__1257 : decode cL_law_ 1257 = .ok (.invokevirtual 173, 3) := by decide +kernel
theorem dL_law__1260 : decode cL_law_ 1260 = .ok (.istore 6, 2) := by decide +kernel
theorem dL_law__1262 : decode cL_law_ 1262 = .ok (.aload_n 2, 1) := by decide +kernel
theorem dL_law__1263 : decode cL_law_ 1263 = .ok (.invokevirtual 124, 3) := by decide +kernel
theorem dL_law__1266 : decode cL_law_ 1266 = .ok (.iload 5, 2) := by decide +kernel
theorem dL_law__1268 : decode cL_law_ 1268 = .ok (.if_icmp .eq 5, 3) := by decide +kernel
theorem dL_law__1271 : decode cL_law_ 1271 = .ok (.iconst 0, 1) := by decide +kernel
theorem dL_law__1272 : decode cL_law_ 1272 = .ok (.ireturn, 1) := by decide +kernel
theorem dL_law__1273 : decode cL_law_ 1273 = .ok (.iload 5, 2) := by decide +kernel
theorem dL_law__1275 : decode cL_law_ 1275 = .ok (.ifCond .ne 15, 3) := by decide +kernel
theorem dL_law__1278 : decode cL_law_ 1278 = .ok (.aload_n 3, 1) := by decide +kernel
theorem dL_law__1279 : decode cL_law_ 1279 = .ok (.iconst 0, 1) := by decide +kernel
theorem dL_law__1280 : decode cL_law_ 1280 = .ok (.laload, 1) := by decide +kernel
theorem dL_law__1281 : decode cL_law_ 1281 = .ok (.iload 6, 2) := by decide +kernel
theorem dL_law__1283 : decode cL_law_ 1283 = .ok (.i2l, 1) := by decide +kernel
theorem dL_law__1284 : decode cL_law_ 1284 = .ok (.lcmp, 1) := by decide +kernel
theorem dL_law__1285 : decode cL_law_ 1285 = .ok (.ifCond .eq 5, 3) := by decide +kernel
theorem dL_law__1288 : decode cL_law_ 1288 = .ok (.iconst 0, 1) := by decide +kernel
theorem dL_law__1289 : decode cL_law_ 1289 = .ok (.ireturn, 1) := by decide +kernel
theorem dL_law__1290 : decode cL_law_ 1290 = .ok (.goto 1176, 3) := by decide +kernel
theorem dL_law__1293 : decode cL_law_ 1293 = .ok (.aload_n 1, 1) := by decide +kernel
theorem dL_law__1294 : decode cL_law_ 1294 = .ok (.aload_n 0, 1) := by decide +kernel
theorem dL_law__1295 : decode cL_law_ 1295 = .ok (.iload 4, 2) := by decide +kernel
theorem dL_law__1297 : decode cL_law_ 1297 = .ok (.iconst 1, 1) := by decide +kernel
theorem dL_law__1298 : decode cL_law_ 1298 = .ok (.iadd, 1) := by decide +kernel
theorem dL_law__1299 : decode cL_law_ 1299 = .ok (.iaload, 1) := by decide +kernel
theorem dL_law__1300 : decode cL_law_ 1300 = .ok (.aload_n 0, 1) := by decide +kernel
theorem dL_law__1301 : decode cL_law_ 1301 = .ok (.iload 4, 2) := by decide +kernel
theorem dL_law__1303 : decode cL_law_ 1303 = .ok (.iconst 2, 1) := by decide +kernel
theorem dL_law__1304 : decode cL_law_ 1304 = .ok (.iadd, 1) := by decide +kernel
theorem dL_law__1305 : decode cL_law_ 1305 = .ok (.iaload, 1) := by decide +kernel
theorem dL_law__1306 : decode cL_law_ 1306 = .ok (.aload_n 3, 1) := by decide +kernel
theorem dL_law__1307 : decode cL_law_ 1307 = .ok (.invokestatic 174, 3) := by decide +kernel
theorem dL_law__1310 : decode cL_law_ 1310 = .ok (.istore 5, 2) := by decide +kernel
theorem dL_law__1312 : decode cL_law_ 1312 = .ok (.aload_n 2, 1) := by decide +kernel
theorem dL_law__1313 : decode cL_law_ 1313 = .ok (.aload_n 0, 1) := by decide +kernel
theorem dL_law__1314 : decode cL_law_ 1314 = .ok (.iload 4, 2) := by decide +kernel
theorem dL_law__1316 : decode cL_law_ 1316 = .ok (.iconst 1, 1) := by decide +kernel
theorem dL_law__1317 : decode cL_law_ 1317 = .ok (.iadd, 1) := by decide +kernel
theorem dL_law__1318 : decode cL_law_ 1318 = .ok (.iaload, 1) := by decide +kernel
theorem dL_law__1319 : decode cL_law_ 1319 = .ok (.aload_n 0, 1) := by decide +kernel
theorem dL_law__1320 : decode cL_law_ 1320 = .ok (.iload 4, 2) := by decide +kernel
theorem dL_law__1322 : decode cL_law_ 1322 = .ok (.iconst 2, 1) := by decide +kernel
theorem dL_law__1323 : decode cL_law_ 1323 = .ok (.iadd, 1) := by decide +kernel
theorem dL_law__1324 : decode cL_law_ 1324 = .ok (.iaload, 1) := by decide +kernel
theorem dL_law__1325 : decode cL_law_ 1325 = .ok (.invokevirtual 176, 3) := by decide +kernel
theorem dL_law__1328 : decode cL_law_ 1328 = .ok (.istore 6, 2) := by decide +kernel
theorem dL_law__1330 : decode cL_law_ 1330 = .ok (.aload_n 2, 1) := by decide +kernel
theorem dL_law__1331 : decode cL_law_ 1331 = .ok (.invokevirtual 124, 3) := by decide +kernel
theorem dL_law__1334 : decode cL_law_ 1334 = .ok (.iload 5, 2) := by decide +kernel
theorem dL_law__1336 : decode cL_law_ 1336 = .ok (.if_icmp .eq 5, 3) := by decide +kernel
theorem dL_law__1339 : decode cL_law_ 1339 = .ok (.iconst 0, 1) := by decide +kernel
theorem dL_law__1340 : decode cL_law_ 1340 = .ok (.ireturn, 1) := by decide +kernel
theorem dL_law__1341 : decode cL_law_ 1341 = .ok (.iload 5, 2) := by decide +kernel
theorem dL_law__1343 : decode cL_law_ 1343 = .ok (.ifCond .ne 15, 3) := by decide +kernel
theorem dL_law__1346 : decode cL_law_ 1346 = .ok (.aload_n 3, 1) := by decide +kernel
theorem dL_law__1347 : decode cL_law_ 1347 = .ok (.iconst 0, 1) := by decide +kernel
theorem dL_law__1348 : decode cL_law_ 1348 = .ok (.laload, 1) := by decide +kernel
theorem dL_law__1349 : decode cL_law_ 1349 = .ok (.iload 6, 2) := by decide +kernel
theorem dL_law__1351 : decode cL_law_ 1351 = .ok (.i2l, 1) := by decide +kernel
theorem dL_law__1352 : decode cL_law_ 1352 = .ok (.lcmp, 1) := by decide +kernel
theorem dL_law__1353 : decode cL_law_ 1353 = .ok (.ifCond .eq 5, 3) := by decide +kernel
theorem dL_law__1356 : decode cL_law_ 1356 = .ok (.iconst 0, 1) := by decide +kernel
theorem dL_law__1357 : decode cL_law_ 1357 = .ok (.ireturn, 1) := by decide +kernel
theorem dL_law__1358 : decode cL_law_ 1358 = .ok (.goto 1108, 3) := by decide +kernel
theorem dL_law__1361 : decode cL_law_ 1361 = .ok (.aload_n 1, 1) := by decide +kernel
theorem dL_law__1362 : decode cL_law_ 1362 = .ok (.aload_n 0, 1) := by decide +kernel
theorem dL_law__1363 : decode cL_law_ 1363 = .ok (.iload 4, 2) := by decide +kernel
theorem dL_law__1365 : decode cL_law_ 1365 = .ok (.iconst 1, 1) := by decide +kernel
theorem dL_law__1366 : decode cL_law_ 1366 = .ok (.iadd, 1) := by decide +kernel
theorem dL_law__1367 : decode cL_law_ 1367 = .ok (.iaload, 1) := by decide +kernel
theorem dL_law__1368 : decode cL_law_ 1368 = .ok (.aload_n 0, 1) := by decide +kernel
theorem dL_law__1369 : decode cL_law_ 1369 = .ok (.iload 4, 2) := by decide +kernel
theorem dL_law__1371 : decode cL_law_ 1371 = .ok (.iconst 2, 1) := by decide +kernel
theorem dL_law__1372 : decode cL_law_ 1372 = .ok (.iadd, 1) := by decide +kernel
theorem dL_law__1373 : decode cL_law_ 1373 = .ok (.iaload, 1) := by decide +kernel
theorem dL_law__1374 : decode cL_law_ 1374 = .ok (.aload_n 3, 1) := by decide +kernel
theorem dL_law__1375 : decode cL_law_ 1375 = .ok (.invokestatic 177, 3) := by decide +kernel
theorem dL_law__1378 : decode cL_law_ 1378 = .ok (.istore 5, 2) := by decide +kernel
theorem dL_law__1380 : decode cL_law_ 1380 = .ok (.aload_n 2, 1) := by decide +kernel
theorem dL_law__1381 : decode cL_law_ 1381 = .ok (.aload_n 0, 1) := by decide +kernel
theorem dL_law__1382 : decode cL_law_ 1382 = .ok (.iload 4, 2) := by decide +kernel
theorem dL_law__1384 : decode cL_law_ 1384 = .ok (.iconst 1, 1) := by decide +kernel
theorem dL_law__1385 : decode cL_law_ 1385 = .ok (.iadd, 1) := by decide +kernel
theorem dL_law__1386 : decode cL_law_ 1386 = .ok (.iaload, 1) := by decide +kernel
theorem dL_law__1387 : decode cL_law_ 1387 = .ok (.aload_n 0, 1) := by decide +kernel
theorem dL_law__1388 : decode cL_law_ 1388 = .ok (.iload 4, 2) := by decide +kernel
theorem dL_law__1390 : decode cL_law_ 1390 = .ok (.iconst 2, 1) := by decide +kernel
theorem dL_law__1391 : decode cL_law_ 1391 = .ok (.iadd, 1) := by decide +kernel
theorem dL_law__1392 : decode cL_law_ 1392 = .ok (.iaload, 1) := by decide +kernel
theorem dL_law__1393 : decode cL_law_ 1393 = .ok (.invokevirtual 179, 3) := by decide +kernel
theorem dL_law__1396 : decode cL_law_ 1396 = .ok (.lstore 6, 2) := by decide +kernel
theorem dL_law__1398 : decode cL_law_ 1398 = .ok (.aload_n 2, 1) := by decide +kernel
theorem dL_law__1399 : decode cL_law_ 1399 = .ok (.invokevirtual 124, 3) := by decide +kernel
theorem dL_law__1402 : decode cL_law_ 1402 = .ok (.iload 5, 2) := by decide +kernel
theorem dL_law__1404 : decode cL_law_ 1404 = .ok (.if_icmp .eq 5, 3) := by decide +kernel
theorem dL_law__1407 : decode cL_law_ 1407 = .ok (.iconst 0, 1) := by decide +kernel
theorem dL_law__1408 : decode cL_law_ 1408 = .ok (.ireturn, 1) := by decide +kernel
theorem dL_law__1409 : decode cL_law_ 1409 = .ok (.iload 5, 2) := by decide +kernel
theorem dL_law__1411 : decode cL_law_ 1411 = .ok (.ifCond .ne 14, 3) := by decide +kernel
theorem dL_law__1414 : decode cL_law_ 1414 = .ok (.aload_n 3, 1) := by decide +kernel
theorem dL_law__1415 : decode cL_law_ 1415 = .ok (.iconst 0, 1) := by decide +kernel
theorem dL_law__1416 : decode cL_law_ 1416 = .ok (.laload, 1) := by decide +kernel
theorem dL_law__1417 : decode cL_law_ 1417 = .ok (.lload 6, 2) := by decide +kernel
theorem dL_law__1419 : decode cL_law_ 1419 = .ok (.lcmp, 1) := by decide +kernel
theorem dL_law__1420 : decode cL_law_ 1420 = .ok (.ifCond .eq 5, 3) := by decide +kernel
theorem dL_law__1423 : decode cL_law_ 1423 = .ok (.iconst 0, 1) := by decide +kernel
theorem dL_law__1424 : decode cL_law_ 1424 = .ok (.ireturn, 1) := by decide +kernel
theorem dL_law__1425 : decode cL_law_ 1425 = .ok (.goto 1041, 3) := by decide +kernel
theorem dL_law__1428 : decode cL_law_ 1428 = .ok (.aload_n 1, 1) := by decide +kernel
theorem dL_law__1429 : decode cL_law_ 1429 = .ok (.aload_n 0, 1) := by decide +kernel
theorem dL_law__1430 : decode cL_law_ 1430 = .ok (.iload 4, 2) := by decide +kernel
theorem dL_law__1432 : decode cL_law_ 1432 = .ok (.iconst 1, 1) := by decide +kernel
theorem dL_law__1433 : decode cL_law_ 1433 = .ok (.iadd, 1) := by decide +kernel
theorem dL_law__1434 : decode cL_law_ 1434 = .ok (.iaload, 1) := by decide +kernel
theorem dL_law__1435 : decode cL_law_ 1435 = .ok (.aload_n 0, 1) := by decide +kernel
theorem dL_law__1436 : decode cL_law_ 1436 = .ok (.iload 4, 2) := by decide +kernel
theorem dL_law__1438 : decode cL_law_ 1438 = .ok (.iconst 2, 1) := by decide +kernel
theorem dL_law__1439 : decode cL_law_ 1439 = .ok (.iadd, 1) := by decide +kernel
theorem dL_law__1440 : decode cL_law_ 1440 = .ok (.iaload, 1) := by decide +kernel
theorem dL_law__1441 : decode cL_law_ 1441 = .ok (.aload_n 0, 1) := by decide +kernel
theorem dL_law__1442 : decode cL_law_ 1442 = .ok (.iload 4, 2) := by decide +kernel
theorem dL_law__1444 : decode cL_law_ 1444 = .ok (.iconst 3, 1) := by decide +kernel
theorem dL_law__1445 : decode cL_law_ 1445 = .ok (.iadd, 1) := by decide +kernel
theorem dL_law__1446 : decode cL_law_ 1446 = .ok (.iaload, 1) := by decide +kernel
theorem dL_law__1447 : decode cL_law_ 1447 = .ok (.aload_n 3, 1) := by decide +kernel
theorem dL_law__1448 : decode cL_law_ 1448 = .ok (.invokestatic 180, 3) := by decide +kernel
theorem dL_law__1451 : decode cL_law_ 1451 = .ok (.istore 5, 2) := by decide +kernel
theorem dL_law__1453 : decode cL_law_ 1453 = .ok (.aload_n 2, 1) := by decide +kernel
theorem dL_law__1454 : decode cL_law_ 1454 = .ok (.aload_n 0, 1) := by decide +kernel
theorem dL_law__1455 : decode cL_law_ 1455 = .ok (.iload 4, 2) := by decide +kernel
theorem dL_law__1457 : decode cL_law_ 1457 = .ok (.iconst 1, 1) := by decide +kernel
theorem dL_law__1458 : decode cL_law_ 1458 = .ok (.iadd, 1) := by decide +kernel
theorem dL_law__1459 : decode cL_law_ 1459 = .ok (.iaload, 1) := by decide +kernel
theorem dL_law__1460 : decode cL_law_ 1460 = .ok (.aload_n 0, 1) := by decide +kernel
theorem dL_law__1461 : decode cL_law_ 1461 = .ok (.iload 4, 2) := by decide +kernel
theorem dL_law__1463 : decode cL_law_ 1463 = .ok (.iconst 2, 1) := by decide +kernel
theorem dL_law__1464 : decode cL_law_ 1464 = .ok (.iadd, 1) := by decide +kernel
theorem dL_law__1465 : decode cL_law_ 1465 = .ok (.iaload, 1) := by decide +kernel
theorem dL_law__1466 : decode cL_law_ 1466 = .ok (.aload_n 0, 1) := by decide +kernel
theorem dL_law__1467 : decode cL_law_ 1467 = .ok (.iload 4, 2) := by decide +kernel
theorem dL_law__1469 : decode cL_law_ 1469 = .ok (.iconst 3, 1) := by decide +kernel
theorem dL_law__1470 : decode cL_law_ 1470 = .ok (.iadd, 1) := by decide +kernel
theorem dL_law__1471 : decode cL_law_ 1471 = .ok (.iaload, 1) := by decide +kernel
theorem dL_law__1472 : decode cL_law_ 1472 = .ok (.invokevirtual 182, 3) := by decide +kernel
theorem dL_law__1475 : decode cL_law_ 1475 = .ok (.istore 6, 2) := by decide +kernel
theorem dL_law__1477 : decode cL_law_ 1477 = .ok (.aload_n 2, 1) := by decide +kernel
theorem dL_law__1478 : decode cL_law_ 1478 = .ok (.invokevirtual 124, 3) := by decide +kernel
theorem dL_law__1481 : decode cL_law_ 1481 = .ok (.iload 5, 2) := by decide +kernel
theorem dL_law__1483 : decode cL_law_ 1483 = .ok (.if_icmp .eq 5, 3) := by decide +kernel
theorem dL_law__1486 : decode cL_law_ 1486 = .ok (.iconst 0, 1) := by decide +kernel
theorem dL_law__1487 : decode cL_law_ 1487 = .ok (.ireturn, 1) := by decide +kernel
theorem dL_law__1488 : decode cL_law_ 1488 = .ok (.iload 5, 2) := by decide +kernel
theorem dL_law__1490 : decode cL_law_ 1490 = .ok (.ifCond .ne 15, 3) := by decide +kernel
theorem dL_law__1493 : decode cL_law_ 1493 = .ok (.aload_n 3, 1) := by decide +kernel
theorem dL_law__1494 : decode cL_law_ 1494 = .ok (.iconst 0, 1) := by decide +kernel
theorem dL_law__1495 : decode cL_law_ 1495 = .ok (.laload, 1) := by decide +kernel
theorem dL_law__1496 : decode cL_law_ 1496 = .ok (.iload 6, 2) := by decide +kernel
theorem dL_law__1498 : decode cL_law_ 1498 = .ok (.i2l, 1) := by decide +kernel
theorem dL_law__1499 : decode cL_law_ 1499 = .ok (.lcmp, 1) := by decide +kernel
theorem dL_law__1500 : decode cL_law_ 1500 = .ok (.ifCond .eq 5, 3) := by decide +kernel
theorem dL_law__1503 : decode cL_law_ 1503 = .ok (.iconst 0, 1) := by decide +kernel
theorem dL_law__1504 : decode cL_law_ 1504 = .ok (.ireturn, 1) := by decide +kernel
theorem dL_law__1505 : decode cL_law_ 1505 = .ok (.goto 961, 3) := by decide +kernel
theorem dL_law__1508 : decode cL_law_ 1508 = .ok (.aload_n 1, 1) := by decide +kernel
theorem dL_law__1509 : decode cL_law_ 1509 = .ok (.aload_n 0, 1) := by decide +kernel
theorem dL_law__1510 : decode cL_law_ 1510 = .ok (.iload 4, 2) := by decide +kernel
theorem dL_law__1512 : decode cL_law_ 1512 = .ok (.iconst 1, 1) := by decide +kernel
theorem dL_law__1513 : decode cL_law_ 1513 = .ok (.iadd, 1) := by decide +kernel
theorem dL_law__1514 : decode cL_law_ 1514 = .ok (.iaload, 1) := by decide +kernel
theorem dL_law__1515 : decode cL_law_ 1515 = .ok (.aload_n 0, 1) := by decide +kernel
theorem dL_law__1516 : decode cL_law_ 1516 = .ok (.iload 4, 2) := by decide +kernel
theorem dL_law__1518 : decode cL_law_ 1518 = .ok (.iconst 2, 1) := by decide +kernel
theorem dL_law__1519 : decode cL_law_ 1519 = .ok (.iadd, 1) := by decide +kernel
theorem dL_law__1520 : decode cL_law_ 1520 = .ok (.iaload, 1) := by decide +kernel
theorem dL_law__1521 : decode cL_law_ 1521 = .ok (.aload_n 0, 1) := by decide +kernel
theorem dL_law__1522 : decode cL_law_ 1522 = .ok (.iload 4, 2) := by decide +kernel
theorem dL_law__1524 : decode cL_law_ 1524 = .ok (.iconst 3, 1) := by decide +kernel
theorem dL_law__1525 : decode cL_law_ 1525 = .ok (.iadd, 1) := by decide +kernel
theorem dL_law__1526 : decode cL_law_ 1526 = .ok (.iaload, 1) := by decide +kernel
theorem dL_law__1527 : decode cL_law_ 1527 = .ok (.aload_n 3, 1) := by decide +kernel
theorem dL_law__1528 : decode cL_law_ 1528 = .ok (.invokestatic 183, 3) := by decide +kernel
theorem dL_law__1531 : decode cL_law_ 1531 = .ok (.istore 5, 2) := by decide +kernel
theorem dL_law__1533 : decode cL_law_ 1533 = .ok (.aload_n 2, 1) := by decide +kernel
theorem dL_law__1534 : decode cL_law_ 1534 = .ok (.aload_n 0, 1) := by decide +kernel
theorem dL_law__1535 : decode cL_law_ 1535 = .ok (.iload 4, 2) := by decide +kernel
theorem dL_law__1537 : decode cL_law_ 1537 = .ok (.iconst 1, 1) := by decide +kernel
theorem dL_law__1538 : decode cL_law_ 1538 = .ok (.iadd, 1) := by decide +kernel
theorem dL_law__1539 : decode cL_law_ 1539 = .ok (.iaload, 1) := by decide +kernel
theorem dL_law__1540 : decode cL_law_ 1540 = .ok (.aload_n 0, 1) := by decide +kernel
theorem dL_law__1541 : decode cL_law_ 1541 = .ok (.iload 4, 2) := by decide +kernel
theorem dL_law__1543 : decode cL_law_ 1543 = .ok (.iconst 2, 1) := by decide +kernel
theorem dL_law__1544 : decode cL_law_ 1544 = .ok (.iadd, 1) := by decide +kernel
theorem dL_law__1545 : decode cL_law_ 1545 = .ok (.iaload, 1) := by decide +kernel
theorem dL_law__1546 : decode cL_law_ 1546 = .ok (.aload_n 0, 1) := by decide +kernel
theorem dL_law__1547 : decode cL_law_ 1547 = .ok (.iload 4, 2) := by decide +kernel
theorem dL_law__1549 : decode cL_law_ 1549 = .ok (.iconst 3, 1) := by decide +kernel
theorem dL_law__1550 : decode cL_law_ 1550 = .ok (.iadd, 1) := by decide +kernel
theorem dL_law__1551 : decode cL_law_ 1551 = .ok (.iaload, 1) := by decide +kernel
theorem dL_law__1552 : decode cL_law_ 1552 = .ok (.invokevirtual 185, 3) := by decide +kernel
theorem dL_law__1555 : decode cL_law_ 1555 = .ok (.istore 6, 2) := by decide +kernel
theorem dL_law__1557 : decode cL_law_ 1557 = .ok (.aload_n 2, 1) := by decide +kernel
theorem dL_law__1558 : decode cL_law_ 1558 = .ok (.invokevirtual 124, 3) := by decide +kernel
theorem dL_law__1561 : decode cL_law_ 1561 = .ok (.iload 5, 2) := by decide +kernel
theorem dL_law__1563 : decode cL_law_ 1563 = .ok (.if_icmp .eq 5, 3) := by decide +kernel
theorem dL_law__1566 : decode cL_law_ 1566 = .ok (.iconst 0, 1) := by decide +kernel
theorem dL_law__1567 : decode cL_law_ 1567 = .ok (.ireturn, 1) := by decide +kernel
theorem dL_law__1568 : decode cL_law_ 1568 = .ok (.iload 5, 2) := by decide +kernel
theorem dL_law__1570 : decode cL_law_ 1570 = .ok (.ifCond .ne 15, 3) := by decide +kernel
theorem dL_law__1573 : decode cL_law_ 1573 = .ok (.aload_n 3, 1) := by decide +kernel
theorem dL_law__1574 : decode cL_law_ 1574 = .ok (.iconst 0, 1) := by decide +kernel
theorem dL_law__1575 : decode cL_law_ 1575 = .ok (.laload, 1) := by decide +kernel
theorem dL_law__1576 : decode cL_law_ 1576 = .ok (.iload 6, 2) := by decide +kernel
theorem dL_law__1578 : decode cL_law_ 1578 = .ok (.i2l, 1) := by decide +kernel
theorem dL_law__1579 : decode cL_law_ 1579 = .ok (.lcmp, 1) := by decide +kernel
theorem dL_law__1580 : decode cL_law_ 1580 = .ok (.ifCond .eq 5, 3) := by decide +kernel
theorem dL_law__1583 : decode cL_law_ 1583 = .ok (.iconst 0, 1) := by decide +kernel
theorem dL_law__1584 : decode cL_law_ 1584 = .ok (.ireturn, 1) := by decide +kernel
theorem dL_law__1585 : decode cL_law_ 1585 = .ok (.goto 881, 3) := by decide +kernel
theorem dL_law__1588 : decode cL_law_ 1588 = .ok (.aload_n 1, 1) := by decide +kernel
theorem dL_law__1589 : decode cL_law_ 1589 = .ok (.aload_n 0, 1) := by decide +kernel
theorem dL_law__1590 : decode cL_law_ 1590 = .ok (.iload 4, 2) := by decide +kernel
theorem dL_law__1592 : decode cL_law_ 1592 = .ok (.iconst 1, 1) := by decide +kernel
theorem dL_law__1593 : decode cL_law_ 1593 = .ok (.iadd, 1) := by decide +kernel
theorem dL_law__1594 : decode cL_law_ 1594 = .ok (.iaload, 1) := by decide +kernel
theorem dL_law__1595 : decode cL_law_ 1595 = .ok (.aload_n 3, 1) := by decide +kernel
theorem dL_law__1596 : decode cL_law_ 1596 = .ok (.invokestatic 186, 3) := by decide +kernel
theorem dL_law__1599 : decode cL_law_ 1599 = .ok (.istore 5, 2) := by decide +kernel
theorem dL_law__1601 : decode cL_law_ 1601 = .ok (.aload_n 2, 1) := by decide +kernel
theorem dL_law__1602 : decode cL_law_ 1602 = .ok (.aload_n 0, 1) := by decide +kernel
theorem dL_law__1603 : decode cL_law_ 1603 = .ok (.iload 4, 2) := by decide +kernel
theorem dL_law__1605 : decode cL_law_ 1605 = .ok (.iconst 1, 1) := by decide +kernel
theorem dL_law__1606 : decode cL_law_ 1606 = .ok (.iadd, 1) := by decide +kernel
theorem dL_law__1607 : decode cL_law_ 1607 = .ok (.iaload, 1) := by decide +kernel
theorem dL_law__1608 : decode cL_law_ 1608 = .ok (.invokevirtual 188, 3) := by decide +kernel
theorem dL_law__1611 : decode cL_law_ 1611 = .ok (.istore 6, 2) := by decide +kernel
theorem dL_law__1613 : decode cL_law_ 1613 = .ok (.aload_n 2, 1) := by decide +kernel
theorem dL_law__1614 : decode cL_law_ 1614 = .ok (.invokevirtual 124, 3) := by decide +kernel
theorem dL_law__1617 : decode cL_law_ 1617 = .ok (.iload 5, 2) := by decide +kernel
theorem dL_law__1619 : decode cL_law_ 1619 = .ok (.if_icmp .eq 5, 3) := by decide +kernel
theorem dL_law__1622 : decode cL_law_ 1622 = .ok (.iconst 0, 1) := by decide +kernel
theorem dL_law__1623 : decode cL_law_ 1623 = .ok (.ireturn, 1) := by decide +kernel
theorem dL_law__1624 : decode cL_law_ 1624 = .ok (.iload 5, 2) := by decide +kernel
theorem dL_law__1626 : decode cL_law_ 1626 = .ok (.ifCond .ne 15, 3) := by decide +kernel
theorem dL_law__1629 : decode cL_law_ 1629 = .ok (.aload_n 3, 1) := by decide +kernel
theorem dL_law__1630 : decode cL_law_ 1630 = .ok (.iconst 0, 1) := by decide +kernel
theorem dL_law__1631 : decode cL_law_ 1631 = .ok (.laload, 1) := by decide +kernel
theorem dL_law__1632 : decode cL_law_ 1632 = .ok (.iload 6, 2) := by decide +kernel
theorem dL_law__1634 : decode cL_law_ 1634 = .ok (.i2l, 1) := by decide +kernel
theorem dL_law__1635 : decode cL_law_ 1635 = .ok (.lcmp, 1) := by decide +kernel
theorem dL_law__1636 : decode cL_law_ 1636 = .ok (.ifCond .eq 5, 3) := by decide +kernel
theorem dL_law__1639 : decode cL_law_ 1639 = .ok (.iconst 0, 1) := by decide +kernel
theorem dL_law__1640 : decode cL_law_ 1640 = .ok (.ireturn, 1) := by decide +kernel
theorem dL_law__1641 : decode cL_law_ 1641 = .ok (.goto 825, 3) := by decide +kernel
theorem dL_law__1644 : decode cL_law_ 1644 = .ok (.aload_n 1, 1) := by decide +kernel
theorem dL_law__1645 : decode cL_law_ 1645 = .ok (.aload_n 0, 1) := by decide +kernel
theorem dL_law__1646 : decode cL_law_ 1646 = .ok (.iload 4, 2) := by decide +kernel
theorem dL_law__1648 : decode cL_law_ 1648 = .ok (.iconst 1, 1) := by decide +kernel
theorem dL_law__1649 : decode cL_law_ 1649 = .ok (.iadd, 1) := by decide +kernel
theorem dL_law__1650 : decode cL_law_ 1650 = .ok (.iaload, 1) := by decide +kernel
theorem dL_law__1651 : decode cL_law_ 1651 = .ok (.aload_n 3, 1) := by decide +kernel
theorem dL_law__1652 : decode cL_law_ 1652 = .ok (.invokestatic 189, 3) := by decide +kernel
theorem dL_law__1655 : decode cL_law_ 1655 = .ok (.istore 5, 2) := by decide +kernel
theorem dL_law__1657 : decode cL_law_ 1657 = .ok (.aload_n 2, 1) := by decide +kernel
theorem dL_law__1658 : decode cL_law_ 1658 = .ok (.aload_n 0, 1) := by decide +kernel
theorem dL_law__1659 : decode cL_law_ 1659 = .ok (.iload 4, 2) := by decide +kernel
theorem dL_law__1661 : decode cL_law_ 1661 = .ok (.iconst 1, 1) := by decide +kernel
theorem dL_law__1662 : decode cL_law_ 1662 = .ok (.iadd, 1) := by decide +kernel
theorem dL_law__1663 : decode cL_law_ 1663 = .ok (.iaload, 1) := by decide +kernel
theorem dL_law__1664 : decode cL_law_ 1664 = .ok (.invokevirtual 191, 3) := by decide +kernel
theorem dL_law__1667 : decode cL_law_ 1667 = .ok (.istore 6, 2) := by decide +kernel
theorem dL_law__1669 : decode cL_law_ 1669 = .ok (.aload_n 2, 1) := by decide +kernel
theorem dL_law__1670 : decode cL_law_ 1670 = .ok (.invokevirtual 124, 3) := by decide +kernel
theorem dL_law__1673 : decode cL_law_ 1673 = .ok (.iload 5, 2) := by decide +kernel
theorem dL_law__1675 : decode cL_law_ 1675 = .ok (.if_icmp .eq 5, 3) := by decide +kernel
theorem dL_law__1678 : decode cL_law_ 1678 = .ok (.iconst 0, 1) := by decide +kernel
theorem dL_law__1679 : decode cL_law_ 1679 = .ok (.ireturn, 1) := by decide +kernel
theorem dL_law__1680 : decode cL_law_ 1680 = .ok (.iload 5, 2) := by decide +kernel
theorem dL_law__1682 : decode cL_law_ 1682 = .ok (.ifCond .ne 15, 3) := by decide +kernel
theorem dL_law__1685 : decode cL_law_ 1685 = .ok (.aload_n 3, 1) := by decide +kernel
theorem dL_law__1686 : decode cL_law_ 1686 = .ok (.iconst 0, 1) := by decide +kernel
theorem dL_law__1687 : decode cL_law_ 1687 = .ok (.laload, 1) := by decide +kernel
theorem dL_law__1688 : decode cL_law_ 1688 = .ok (.iload 6, 2) := by decide +kernel
theorem dL_law__1690 : decode cL_law_ 1690 = .ok (.i2l, 1) := by decide +kernel
theorem dL_law__1691 : decode cL_law_ 1691 = .ok (.lcmp, 1) := by decide +kernel
theorem dL_law__1692 : decode cL_law_ 1692 = .ok (.ifCond .eq 5, 3) := by decide +kernel
theorem dL_law__1695 : decode cL_law_ 1695 = .ok (.iconst 0, 1) := by decide +kernel
theorem dL_law__1696 : decode cL_law_ 1696 = .ok (.ireturn, 1) := by decide +kernel
theorem dL_law__1697 : decode cL_law_ 1697 = .ok (.goto 769, 3) := by decide +kernel
theorem dL_law__1700 : decode cL_law_ 1700 = .ok (.aload_n 1, 1) := by decide +kernel
theorem dL_law__1701 : decode cL_law_ 1701 = .ok (.aload_n 0, 1) := by decide +kernel
theorem dL_law__1702 : decode cL_law_ 1702 = .ok (.iload 4, 2) := by decide +kernel
theorem dL_law__1704 : decode cL_law_ 1704 = .ok (.iconst 1, 1) := by decide +kernel
theorem dL_law__1705 : decode cL_law_ 1705 = .ok (.iadd, 1) := by decide +kernel
theorem dL_law__1706 : decode cL_law_ 1706 = .ok (.iaload, 1) := by decide +kernel
theorem dL_law__1707 : decode cL_law_ 1707 = .ok (.aload_n 0, 1) := by decide +kernel
theorem dL_law__1708 : decode cL_law_ 1708 = .ok (.iload 4, 2) := by decide +kernel
theorem dL_law__1710 : decode cL_law_ 1710 = .ok (.iconst 2, 1) := by decide +kernel
theorem dL_law__1711 : decode cL_law_ 1711 = .ok (.iadd, 1) := by decide +kernel
theorem dL_law__1712 : decode cL_law_ 1712 = .ok (.iaload, 1) := by decide +kernel
theorem dL_law__1713 : decode cL_law_ 1713 = .ok (.aload_n 3, 1) := by decide +kernel
theorem dL_law__1714 : decode cL_law_ 1714 = .ok (.invokestatic 192, 3) := by decide +kernel
theorem dL_law__1717 : decode cL_law_ 1717 = .ok (.istore 5, 2) := by decide +kernel
theorem dL_law__1719 : decode cL_law_ 1719 = .ok (.aload_n 2, 1) := by decide +kernel
theorem dL_law__1720 : decode cL_law_ 1720 = .ok (.aload_n 0, 1) := by decide +kernel
theorem dL_law__1721 : decode cL_law_ 1721 = .ok (.iload 4, 2) := by decide +kernel
theorem dL_law__1723 : decode cL_law_ 1723 = .ok (.iconst 1, 1) := by decide +kernel
theorem dL_law__1724 : decode cL_law_ 1724 = .ok (.iadd, 1) := by decide +kernel
theorem dL_law__1725 : decode cL_law_ 1725 = .ok (.iaload, 1) := by decide +kernel
theorem dL_law__1726 : decode cL_law_ 1726 = .ok (.aload_n 0, 1) := by decide +kernel
theorem dL_law__1727 : decode cL_law_ 1727 = .ok (.iload 4, 2) := by decide +kernel
theorem dL_law__1729 : decode cL_law_ 1729 = .ok (.iconst 2, 1) := by decide +kernel
theorem dL_law__1730 : decode cL_law_ 1730 = .ok (.iadd, 1) := by decide +kernel
theorem dL_law__1731 : decode cL_law_ 1731 = .ok (.iaload, 1) := by decide +kernel
theorem dL_law__1732 : decode cL_law_ 1732 = .ok (.invokevirtual 194, 3) := by decide +kernel
theorem dL_law__1735 : decode cL_law_ 1735 = .ok (.istore 6, 2) := by decide +kernel
theorem dL_law__1737 : decode cL_law_ 1737 = .ok (.aload_n 2, 1) := by decide +kernel
theorem dL_law__1738 : decode cL_law_ 1738 = .ok (.invokevirtual 124, 3) := by decide +kernel
theorem dL_law__1741 : decode cL_law_ 1741 = .ok (.iload 5, 2) := by decide +kernel
theorem dL_law__1743 : decode cL_law_ 1743 = .ok (.if_icmp .eq 5, 3) := by decide +kernel
theorem dL_law__1746 : decode cL_law_ 1746 = .ok (.iconst 0, 1) := by decide +kernel
theorem dL_law__1747 : decode cL_law_ 1747 = .ok (.ireturn, 1) := by decide +kernel
theorem dL_law__1748 : decode cL_law_ 1748 = .ok (.iload 5, 2) := by decide +kernel
theorem dL_law__1750 : decode cL_law_ 1750 = .ok (.ifCond .ne 15, 3) := by decide +kernel
theorem dL_law__1753 : decode cL_law_ 1753 = .ok (.aload_n 3, 1) := by decide +kernel
theorem dL_law__1754 : decode cL_law_ 1754 = .ok (.iconst 0, 1) := by decide +kernel
theorem dL_law__1755 : decode cL_law_ 1755 = .ok (.laload, 1) := by decide +kernel
theorem dL_law__1756 : decode cL_law_ 1756 = .ok (.iload 6, 2) := by decide +kernel
theorem dL_law__1758 : decode cL_law_ 1758 = .ok (.i2l, 1) := by decide +kernel
theorem dL_law__1759 : decode cL_law_ 1759 = .ok (.lcmp, 1) := by decide +kernel
theorem dL_law__1760 : decode cL_law_ 1760 = .ok (.ifCond .eq 5, 3) := by decide +kernel
theorem dL_law__1763 : decode cL_law_ 1763 = .ok (.iconst 0, 1) := by decide +kernel
theorem dL_law__1764 : decode cL_law_ 1764 = .ok (.ireturn, 1) := by decide +kernel
theorem dL_law__1765 : decode cL_law_ 1765 = .ok (.goto 701, 3) := by decide +kernel
theorem dL_law__1768 : decode cL_law_ 1768 = .ok (.aload_n 1, 1) := by decide +kernel
theorem dL_law__1769 : decode cL_law_ 1769 = .ok (.aload_n 0, 1) := by decide +kernel
theorem dL_law__1770 : decode cL_law_ 1770 = .ok (.iload 4, 2) := by decide +kernel
theorem dL_law__1772 : decode cL_law_ 1772 = .ok (.iconst 1, 1) := by decide +kernel
theorem dL_law__1773 : decode cL_law_ 1773 = .ok (.iadd, 1) := by decide +kernel
theorem dL_law__1774 : decode cL_law_ 1774 = .ok (.iaload, 1) := by decide +kernel
theorem dL_law__1775 : decode cL_law_ 1775 = .ok (.aload_n 0, 1) := by decide +kernel
theorem dL_law__1776 : decode cL_law_ 1776 = .ok (.iload 4, 2) := by decide +kernel
theorem dL_law__1778 : decode cL_law_ 1778 = .ok (.iconst 2, 1) := by decide +kernel
theorem dL_law__1779 : decode cL_law_ 1779 = .ok (.iadd, 1) := by decide +kernel
theorem dL_law__1780 : decode cL_law_ 1780 = .ok (.iaload, 1) := by decide +kernel
theorem dL_law__1781 : decode cL_law_ 1781 = .ok (.aload_n 3, 1) := by decide +kernel
theorem dL_law__1782 : decode cL_law_ 1782 = .ok (.invokestatic 195, 3) := by decide +kernel
theorem dL_law__1785 : decode cL_law_ 1785 = .ok (.istore 5, 2) := by decide +kernel
theorem dL_law__1787 : decode cL_law_ 1787 = .ok (.aload_n 2, 1) := by decide +kernel
theorem dL_law__1788 : decode cL_law_ 1788 = .ok (.aload_n 0, 1) := by decide +kernel
theorem dL_law__1789 : decode cL_law_ 1789 = .ok (.iload 4, 2) := by decide +kernel
theorem dL_law__1791 : decode cL_law_ 1791 = .ok (.iconst 1, 1) := by decide +kernel
theorem dL_law__1792 : decode cL_law_ 1792 = .ok (.iadd, 1) := by decide +kernel
theorem dL_law__1793 : decode cL_law_ 1793 = .ok (.iaload, 1) := by decide +kernel
theorem dL_law__1794 : decode cL_law_ 1794 = .ok (.aload_n 0, 1) := by decide +kernel
theorem dL_law__1795 : decode cL_law_ 1795 = .ok (.iload 4, 2) := by decide +kernel
theorem dL_law__1797 : decode cL_law_ 1797 = .ok (.iconst 2, 1) := by decide +kernel
theorem dL_law__1798 : decode cL_law_ 1798 = .ok (.iadd, 1) := by decide +kernel
theorem dL_law__1799 : decode cL_law_ 1799 = .ok (.iaload, 1) := by decide +kernel
theorem dL_law__1800 : decode cL_law_ 1800 = .ok (.invokevirtual 197, 3) := by decide +kernel
theorem dL_law__1803 : decode cL_law_ 1803 = .ok (.istore 6, 2) := by decide +kernel
theorem dL_law__1805 : decode cL_law_ 1805 = .ok (.aload_n 2, 1) := by decide +kernel
theorem dL_law__1806 : decode cL_law_ 1806 = .ok (.invokevirtual 124, 3) := by decide +kernel
theorem dL_law__1809 : decode cL_law_ 1809 = .ok (.iload 5, 2) := by decide +kernel
theorem dL_law__1811 : decode cL_law_ 1811 = .ok (.if_icmp .eq 5, 3) := by decide +kernel
theorem dL_law__1814 : decode cL_law_ 1814 = .ok (.iconst 0, 1) := by decide +kernel
theorem dL_law__1815 : decode cL_law_ 1815 = .ok (.ireturn, 1) := by decide +kernel
theorem dL_law__1816 : decode cL_law_ 1816 = .ok (.iload 5, 2) := by decide +kernel
theorem dL_law__1818 : decode cL_law_ 1818 = .ok (.ifCond .ne 15, 3) := by decide +kernel
theorem dL_law__1821 : decode cL_law_ 1821 = .ok (.aload_n 3, 1) := by decide +kernel
theorem dL_law__1822 : decode cL_law_ 1822 = .ok (.iconst 0, 1) := by decide +kernel
theorem dL_law__1823 : decode cL_law_ 1823 = .ok (.laload, 1) := by decide +kernel
theorem dL_law__1824 : decode cL_law_ 1824 = .ok (.iload 6, 2) := by decide +kernel
theorem dL_law__1826 : decode cL_law_ 1826 = .ok (.i2l, 1) := by decide +kernel
theorem dL_law__1827 : decode cL_law_ 1827 = .ok (.lcmp, 1) := by decide +kernel
theorem dL_law__1828 : decode cL_law_ 1828 = .ok (.ifCond .eq 5, 3) := by decide +kernel
theorem dL_law__1831 : decode cL_law_ 1831 = .ok (.iconst 0, 1) := by decide +kernel
theorem dL_law__1832 : decode cL_law_ 1832 = .ok (.ireturn, 1) := by decide +kernel
theorem dL_law__1833 : decode cL_law_ 1833 = .ok (.goto 633, 3) := by decide +kernel
theorem dL_law__1836 : decode cL_law_ 1836 = .ok (.aload_n 1, 1) := by decide +kernel
theorem dL_law__1837 : decode cL_law_ 1837 = .ok (.aload_n 0, 1) := by decide +kernel
theorem dL_law__1838 : decode cL_law_ 1838 = .ok (.iload 4, 2) := by decide +kernel
theorem dL_law__1840 : decode cL_law_ 1840 = .ok (.iconst 1, 1) := by decide +kernel
theorem dL_law__1841 : decode cL_law_ 1841 = .ok (.iadd, 1) := by decide +kernel
theorem dL_law__1842 : decode cL_law_ 1842 = .ok (.iaload, 1) := by decide +kernel
theorem dL_law__1843 : decode cL_law_ 1843 = .ok (.aload_n 0, 1) := by decide +kernel
theorem dL_law__1844 : decode cL_law_ 1844 = .ok (.iload 4, 2) := by decide +kernel
theorem dL_law__1846 : decode cL_law_ 1846 = .ok (.iconst 2, 1) := by decide +kernel
theorem dL_law__1847 : decode cL_law_ 1847 = .ok (.iadd, 1) := by decide +kernel
theorem dL_law__1848 : decode cL_law_ 1848 = .ok (.iaload, 1) := by decide +kernel
theorem dL_law__1849 : decode cL_law_ 1849 = .ok (.invokevirtual 198, 3) := by decide +kernel
theorem dL_law__1852 : decode cL_law_ 1852 = .ok (.aload_n 2, 1) := by decide +kernel
theorem dL_law__1853 : decode cL_law_ 1853 = .ok (.aload_n 0, 1) := by decide +kernel
theorem dL_law__1854 : decode cL_law_ 1854 = .ok (.iload 4, 2) := by decide +kernel
theorem dL_law__1856 : decode cL_law_ 1856 = .ok (.iconst 1, 1) := by decide +kernel
theorem dL_law__1857 : decode cL_law_ 1857 = .ok (.iadd, 1) := by decide +kernel
theorem dL_law__1858 : decode cL_law_ 1858 = .ok (.iaload, 1) := by decide +kernel
theorem dL_law__1859 : decode cL_law_ 1859 = .ok (.aload_n 0, 1) := by decide +kernel
theorem dL_law__1860 : decode cL_law_ 1860 = .ok (.iload 4, 2) := by decide +kernel
theorem dL_law__1862 : decode cL_law_ 1862 = .ok (.iconst 2, 1) := by decide +kernel
theorem dL_law__1863 : decode cL_law_ 1863 = .ok (.iadd, 1) := by decide +kernel
theorem dL_law__1864 : decode cL_law_ 1864 = .ok (.iaload, 1) := by decide +kernel
theorem dL_law__1865 : decode cL_law_ 1865 = .ok (.invokevirtual 201, 3) := by decide +kernel
theorem dL_law__1868 : decode cL_law_ 1868 = .ok (.if_icmp .eq 598, 3) := by decide +kernel
theorem dL_law__1871 : decode cL_law_ 1871 = .ok (.iconst 0, 1) := by decide +kernel
theorem dL_law__1872 : decode cL_law_ 1872 = .ok (.ireturn, 1) := by decide +kernel
theorem dL_law__1873 : decode cL_law_ 1873 = .ok (.aload_n 1, 1) := by decide +kernel
theorem dL_law__1874 : decode cL_law_ 1874 = .ok (.invokevirtual 202, 3) := by decide +kernel
theorem dL_law__1877 : decode cL_law_ 1877 = .ok (.aload_n 2, 1) := by decide +kernel
theorem dL_law__1878 : decode cL_law_ 1878 = .ok (.invokevirtual 205, 3) := by decide +kernel
theorem dL_law__1881 : decode cL_law_ 1881 = .ok (.if_icmp .eq 585, 3) := by decide +kernel
theorem dL_law__1884 : decode cL_law_ 1884 = .ok (.iconst 0, 1) := by decide +kernel
theorem dL_law__1885 : decode cL_law_ 1885 = .ok (.ireturn, 1) := by decide +kernel
theorem dL_law__1886 : decode cL_law_ 1886 = .ok (.aload_n 1, 1) := by decide +kernel
theorem dL_law__1887 : decode cL_law_ 1887 = .ok (.aload_n 0, 1) := by decide +kernel
theorem dL_law__1888 : decode cL_law_ 1888 = .ok (.iload 4, 2) := by decide +kernel
theorem dL_law__1890 : decode cL_law_ 1890 = .ok (.iconst 1, 1) := by decide +kernel
theorem dL_law__1891 : decode cL_law_ 1891 = .ok (.iadd, 1) := by decide +kernel
theorem dL_law__1892 : decode cL_law_ 1892 = .ok (.iaload, 1) := by decide +kernel
theorem dL_law__1893 : decode cL_law_ 1893 = .ok (.aload_n 3, 1) := by decide +kernel
theorem dL_law__1894 : decode cL_law_ 1894 = .ok (.invokestatic 206, 3) := by decide +kernel
theorem dL_law__1897 : decode cL_law_ 1897 = .ok (.istore 5, 2) := by decide +kernel
theorem dL_law__1899 : decode cL_law_ 1899 = .ok (.aload_n 2, 1) := by decide +kernel
theorem dL_law__1900 : decode cL_law_ 1900 = .ok (.aload_n 0, 1) := by decide +kernel
theorem dL_law__1901 : decode cL_law_ 1901 = .ok (.iload 4, 2) := by decide +kernel
theorem dL_law__1903 : decode cL_law_ 1903 = .ok (.iconst 1, 1) := by decide +kernel
theorem dL_law__1904 : decode cL_law_ 1904 = .ok (.iadd, 1) := by decide +kernel
theorem dL_law__1905 : decode cL_law_ 1905 = .ok (.iaload, 1) := by decide +kernel
theorem dL_law__1906 : decode cL_law_ 1906 = .ok (.invokevirtual 208, 3) := by decide +kernel
theorem dL_law__1909 : decode cL_law_ 1909 = .ok (.istore 6, 2) := by decide +kernel
theorem dL_law__1911 : decode cL_law_ 1911 = .ok (.aload_n 2, 1) := by decide +kernel
theorem dL_law__1912 : decode cL_law_ 1912 = .ok (.invokevirtual 124, 3) := by decide +kernel
theorem dL_law__1915 : decode cL_law_ 1915 = .ok (.iload 5, 2) := by decide +kernel
theorem dL_law__1917 : decode cL_law_ 1917 = .ok (.if_icmp .eq 5, 3) := by decide +kernel
theorem dL_law__1920 : decode cL_law_ 1920 = .ok (.iconst 0, 1) := by decide +kernel
theorem dL_law__1921 : decode cL_law_ 1921 = .ok (.ireturn, 1) := by decide +kernel
theorem dL_law__1922 : decode cL_law_ 1922 = .ok (.iload 5, 2) := by decide +kernel
theorem dL_law__1924 : decode cL_law_ 1924 = .ok (.ifCond .ne 15, 3) := by decide +kernel
theorem dL_law__1927 : decode cL_law_ 1927 = .ok (.aload_n 3, 1) := by decide +kernel
theorem dL_law__1928 : decode cL_law_ 1928 = .ok (.iconst 0, 1) := by decide +kernel
theorem dL_law__1929 : decode cL_law_ 1929 = .ok (.laload, 1) := by decide +kernel
theorem dL_law__1930 : decode cL_law_ 1930 = .ok (.iload 6, 2) := by decide +kernel
theorem dL_law__1932 : decode cL_law_ 1932 = .ok (.i2l, 1) := by decide +kernel
theorem dL_law__1933 : decode cL_law_ 1933 = .ok (.lcmp, 1) := by decide +kernel
theorem dL_law__1934 : decode cL_law_ 1934 = .ok (.ifCond .eq 5, 3) := by decide +kernel
theorem dL_law__1937 : decode cL_law_ 1937 = .ok (.iconst 0, 1) := by decide +kernel
theorem dL_law__1938 : decode cL_law_ 1938 = .ok (.ireturn, 1) := by decide +kernel
theorem dL_law__1939 : decode cL_law_ 1939 = .ok (.goto 527, 3) := by decide +kernel
theorem dL_law__1942 : decode cL_law_ 1942 = .ok (.aload_n 1, 1) := by decide +kernel
theorem dL_law__1943 : decode cL_law_ 1943 = .ok (.aload_n 0, 1) := by decide +kernel
theorem dL_law__1944 : decode cL_law_ 1944 = .ok (.iload 4, 2) := by decide +kernel
theorem dL_law__1946 : decode cL_law_ 1946 = .ok (.iconst 1, 1) := by decide +kernel
theorem dL_law__1947 : decode cL_law_ 1947 = .ok (.iadd, 1) := by decide +kernel
theorem dL_law__1948 : decode cL_law_ 1948 = .ok (.iaload, 1) := by decide +kernel
theorem dL_law__1949 : decode cL_law_ 1949 = .ok (.aload_n 3, 1) := by decide +kernel
theorem dL_law__1950 : decode cL_law_ 1950 = .ok (.invokestatic 209, 3) := by decide +kernel
theorem dL_law__1953 : decode cL_law_ 1953 = .ok (.istore 5, 2) := by decide +kernel
theorem dL_law__1955 : decode cL_law_ 1955 = .ok (.aload_n 2, 1) := by decide +kernel
theorem dL_law__1956 : decode cL_law_ 1956 = .ok (.aload_n 0, 1) := by decide +kernel
theorem dL_law__1957 : decode cL_law_ 1957 = .ok (.iload 4, 2) := by decide +kernel
theorem dL_law__1959 : decode cL_law_ 1959 = .ok (.iconst 1, 1) := by decide +kernel
theorem dL_law__1960 : decode cL_law_ 1960 = .ok (.iadd, 1) := by decide +kernel
theorem dL_law__1961 : decode cL_law_ 1961 = .ok (.iaload, 1) := by decide +kernel
theorem dL_law__1962 : decode cL_law_ 1962 = .ok (.invokevirtual 211, 3) := by decide +kernel
theorem dL_law__1965 : decode cL_law_ 1965 = .ok (.istore 6, 2) := by decide +kernel
theorem dL_law__1967 : decode cL_law_ 1967 = .ok (.aload_n 2, 1) := by decide +kernel
theorem dL_law__1968 : decode cL_law_ 1968 = .ok (.invokevirtual 124, 3) := by decide +kernel
theorem dL_law__1971 : decode cL_law_ 1971 = .ok (.iload 5, 2) := by decide +kernel
theorem dL_law__1973 : decode cL_law_ 1973 = .ok (.if_icmp .eq 5, 3) := by decide +kernel
theorem dL_law__1976 : decode cL_law_ 1976 = .ok (.iconst 0, 1) := by decide +kernel
theorem dL_law__1977 : decode cL_law_ 1977 = .ok (.ireturn, 1) := by decide +kernel
theorem dL_law__1978 : decode cL_law_ 1978 = .ok (.iload 5, 2) := by decide +kernel
theorem dL_law__1980 : decode cL_law_ 1980 = .ok (.ifCond .ne 15, 3) := by decide +kernel
theorem dL_law__1983 : decode cL_law_ 1983 = .ok (.aload_n 3, 1) := by decide +kernel
theorem dL_law__1984 : decode cL_law_ 1984 = .ok (.iconst 0, 1) := by decide +kernel
theorem dL_law__1985 : decode cL_law_ 1985 = .ok (.laload, 1) := by decide +kernel
theorem dL_law__1986 : decode cL_law_ 1986 = .ok (.iload 6, 2) := by decide +kernel
theorem dL_law__1988 : decode cL_law_ 1988 = .ok (.i2l, 1) := by decide +kernel
theorem dL_law__1989 : decode cL_law_ 1989 = .ok (.lcmp, 1) := by decide +kernel
theorem dL_law__1990 : decode cL_law_ 1990 = .ok (.ifCond .eq 5, 3) := by decide +kernel
theorem dL_law__1993 : decode cL_law_ 1993 = .ok (.iconst 0, 1) := by decide +kernel
theorem dL_law__1994 : decode cL_law_ 1994 = .ok (.ireturn, 1) := by decide +kernel
theorem dL_law__1995 : decode cL_law_ 1995 = .ok (.goto 471, 3) := by decide +kernel
theorem dL_law__1998 : decode cL_law_ 1998 = .ok (.aload_n 1, 1) := by decide +kernel
theorem dL_law__1999 : decode cL_law_ 1999 = .ok (.aload_n 0, 1) := by decide +kernel
theorem dL_law__2000 : decode cL_law_ 2000 = .ok (.iload 4, 2) := by decide +kernel
theorem dL_law__2002 : decode cL_law_ 2002 = .ok (.iconst 1, 1) := by decide +kernel
theorem dL_law__2003 : decode cL_law_ 2003 = .ok (.iadd, 1) := by decide +kernel
theorem dL_law__2004 : decode cL_law_ 2004 = .ok (.iaload, 1) := by decide +kernel
theorem dL_law__2005 : decode cL_law_ 2005 = .ok (.aload_n 0, 1) := by decide +kernel
theorem dL_law__2006 : decode cL_law_ 2006 = .ok (.iload 4, 2) := by decide +kernel
theorem dL_law__2008 : decode cL_law_ 2008 = .ok (.iconst 2, 1) := by decide +kernel
theorem dL_law__2009 : decode cL_law_ 2009 = .ok (.iadd, 1) := by decide +kernel
theorem dL_law__2010 : decode cL_law_ 2010 = .ok (.iaload, 1) := by decide +kernel
theorem dL_law__2011 : decode cL_law_ 2011 = .ok (.aload_n 3, 1) := by decide +kernel
theorem dL_law__2012 : decode cL_law_ 2012 = .ok (.invokestatic 212, 3) := by decide +kernel
theorem dL_law__2015 : decode cL_law_ 2015 = .ok (.istore 5, 2) := by decide +kernel
theorem dL_law__2017 : decode cL_law_ 2017 = .ok (.aload_n 2, 1) := by decide +kernel
theorem dL_law__2018 : decode cL_law_ 2018 = .ok (.aload_n 0, 1) := by decide +kernel
theorem dL_law__2019 : decode cL_law_ 2019 = .ok (.iload 4, 2) := by decide +kernel
theorem dL_law__2021 : decode cL_law_ 2021 = .ok (.iconst 1, 1) := by decide +kernel
theorem dL_law__2022 : decode cL_law_ 2022 = .ok (.iadd, 1) := by decide +kernel
theorem dL_law__2023 : decode cL_law_ 2023 = .ok (.iaload, 1) := by decide +kernel
theorem dL_law__2024 : decode cL_law_ 2024 = .ok (.aload_n 0, 1) := by decide +kernel
theorem dL_law__2025 : decode cL_law_ 2025 = .ok (.iload 4, 2) := by decide +kernel
theorem dL_law__2027 : decode cL_law_ 2027 = .ok (.iconst 2, 1) := by decide +kernel
theorem dL_law__2028 : decode cL_law_ 2028 = .ok (.iadd, 1) := by decide +kernel
theorem dL_law__2029 : decode cL_law_ 2029 = .ok (.iaload, 1) := by decide +kernel
theorem dL_law__2030 : decode cL_law_ 2030 = .ok (.invokevirtual 214, 3) := by decide +kernel
theorem dL_law__2033 : decode cL_law_ 2033 = .ok (.istore 6, 2) := by decide +kernel
theorem dL_law__2035 : decode cL_law_ 2035 = .ok (.aload_n 2, 1) := by decide +kernel
theorem dL_law__2036 : decode cL_law_ 2036 = .ok (.invokevirtual 124, 3) := by decide +kernel
theorem dL_law__2039 : decode cL_law_ 2039 = .ok (.iload 5, 2) := by decide +kernel
theorem dL_law__2041 : decode cL_law_ 2041 = .ok (.if_icmp .eq 5, 3) := by decide +kernel
theorem dL_law__2044 : decode cL_law_ 2044 = .ok (.iconst 0, 1) := by decide +kernel
theorem dL_law__2045 : decode cL_law_ 2045 = .ok (.ireturn, 1) := by decide +kernel
theorem dL_law__2046 : decode cL_law_ 2046 = .ok (.iload 5, 2) := by decide +kernel
theorem dL_law__2048 : decode cL_law_ 2048 = .ok (.ifCond .ne 15, 3) := by decide +kernel
theorem dL_law__2051 : decode cL_law_ 2051 = .ok (.aload_n 3, 1) := by decide +kernel
theorem dL_law__2052 : decode cL_law_ 2052 = .ok (.iconst 0, 1) := by decide +kernel
theorem dL_law__2053 : decode cL_law_ 2053 = .ok (.laload, 1) := by decide +kernel
theorem dL_law__2054 : decode cL_law_ 2054 = .ok (.iload 6, 2) := by decide +kernel
theorem dL_law__2056 : decode cL_law_ 2056 = .ok (.i2l, 1) := by decide +kernel
theorem dL_law__2057 : decode cL_law_ 2057 = .ok (.lcmp, 1) := by decide +kernel
theorem dL_law__2058 : decode cL_law_ 2058 = .ok (.ifCond .eq 5, 3) := by decide +kernel
theorem dL_law__2061 : decode cL_law_ 2061 = .ok (.iconst 0, 1) := by decide +kernel
theorem dL_law__2062 : decode cL_law_ 2062 = .ok (.ireturn, 1) := by decide +kernel
theorem dL_law__2063 : decode cL_law_ 2063 = .ok (.goto 403, 3) := by decide +kernel
theorem dL_law__2066 : decode cL_law_ 2066 = .ok (.aload_n 1, 1) := by decide +kernel
theorem dL_law__2067 : decode cL_law_ 2067 = .ok (.aload_n 0, 1) := by decide +kernel
theorem dL_law__2068 : decode cL_law_ 2068 = .ok (.iload 4, 2) := by decide +kernel
theorem dL_law__2070 : decode cL_law_ 2070 = .ok (.iconst 1, 1) := by decide +kernel
theorem dL_law__2071 : decode cL_law_ 2071 = .ok (.iadd, 1) := by decide +kernel
theorem dL_law__2072 : decode cL_law_ 2072 = .ok (.iaload, 1) := by decide +kernel
theorem dL_law__2073 : decode cL_law_ 2073 = .ok (.aload_n 3, 1) := by decide +kernel
theorem dL_law__2074 : decode cL_law_ 2074 = .ok (.invokestatic 215, 3) := by decide +kernel
theorem dL_law__2077 : decode cL_law_ 2077 = .ok (.istore 5, 2) := by decide +kernel
theorem dL_law__2079 : decode cL_law_ 2079 = .ok (.aload_n 2, 1) := by decide +kernel
theorem dL_law__2080 : decode cL_law_ 2080 = .ok (.aload_n 0, 1) := by decide +kernel
theorem dL_law__2081 : decode cL_law_ 2081 = .ok (.iload 4, 2) := by decide +kernel
theorem dL_law__2083 : decode cL_law_ 2083 = .ok (.iconst 1, 1) := by decide +kernel
theorem dL_law__2084 : decode cL_law_ 2084 = .ok (.iadd, 1) := by decide +kernel
theorem dL_law__2085 : decode cL_law_ 2085 = .ok (.iaload, 1) := by decide +kernel
theorem dL_law__2086 : decode cL_law_ 2086 = .ok (.invokevirtual 217, 3) := by decide +kernel
theorem dL_law__2089 : decode cL_law_ 2089 = .ok (.istore 6, 2) := by decide +kernel
theorem dL_law__2091 : decode cL_law_ 2091 = .ok (.aload_n 2, 1) := by decide +kernel
theorem dL_law__2092 : decode cL_law_ 2092 = .ok (.invokevirtual 124, 3) := by decide +kernel
theorem dL_law__2095 : decode cL_law_ 2095 = .ok (.iload 5, 2) := by decide +kernel
theorem dL_law__2097 : decode cL_law_ 2097 = .ok (.if_icmp .eq 5, 3) := by decide +kernel
theorem dL_law__2100 : decode cL_law_ 2100 = .ok (.iconst 0, 1) := by decide +kernel
theorem dL_law__2101 : decode cL_law_ 2101 = .ok (.ireturn, 1) := by decide +kernel
theorem dL_law__2102 : decode cL_law_ 2102 = .ok (.iload 5, 2) := by decide +kernel
theorem dL_law__2104 : decode cL_law_ 2104 = .ok (.ifCond .ne 15, 3) := by decide +kernel
theorem dL_law__2107 : decode cL_law_ 2107 = .ok (.aload_n 3, 1) := by decide +kernel
theorem dL_law__2108 : decode cL_law_ 2108 = .ok (.iconst 0, 1) := by decide +kernel
theorem dL_law__2109 : decode cL_law_ 2109 = .ok (.laload, 1) := by decide +kernel
theorem dL_law__2110 : decode cL_law_ 2110 = .ok (.iload 6, 2) := by decide +kernel
theorem dL_law__2112 : decode cL_law_ 2112 = .ok (.i2l, 1) := by decide +kernel
theorem dL_law__2113 : decode cL_law_ 2113 = .ok (.lcmp, 1) := by decide +kernel
theorem dL_law__2114 : decode cL_law_ 2114 = .ok (.ifCond .eq 5, 3) := by decide +kernel
theorem dL_law__2117 : decode cL_law_ 2117 = .ok (.iconst 0, 1) := by decide +kernel
theorem dL_law__2118 : decode cL_law_ 2118 = .ok (.ireturn, 1) := by decide +kernel
theorem dL_law__2119 : decode cL_law_ 2119 = .ok (.goto 347, 3) := by decide +kernel
theorem dL_law__2122 : decode cL_law_ 2122 = .ok (.aload_n 1, 1) := by decide +kernel
theorem dL_law__2123 : decode cL_law_ 2123 = .ok (.aload_n 0, 1) := by decide +kernel
theorem dL_law__2124 : decode cL_law_ 2124 = .ok (.iload 4, 2) := by decide +kernel
theorem dL_law__2126 : decode cL_law_ 2126 = .ok (.iconst 1, 1) := by decide +kernel
theorem dL_law__2127 : decode cL_law_ 2127 = .ok (.iadd, 1) := by decide +kernel
theorem dL_law__2128 : decode cL_law_ 2128 = .ok (.iaload, 1) := by decide +kernel
theorem dL_law__2129 : decode cL_law_ 2129 = .ok (.aload_n 0, 1) := by decide +kernel
theorem dL_law__2130 : decode cL_law_ 2130 = .ok (.iload 4, 2) := by decide +kernel
theorem dL_law__2132 : decode cL_law_ 2132 = .ok (.iconst 2, 1) := by decide +kernel
theorem dL_law__2133 : decode cL_law_ 2133 = .ok (.iadd, 1) := by decide +kernel
theorem dL_law__2134 : decode cL_law_ 2134 = .ok (.iaload, 1) := by decide +kernel
theorem dL_law__2135 : decode cL_law_ 2135 = .ok (.aload_n 0, 1) := by decide +kernel
theorem dL_law__2136 : decode cL_law_ 2136 = .ok (.iload 4, 2) := by decide +kernel
theorem dL_law__2138 : decode cL_law_ 2138 = .ok (.iconst 3, 1) := by decide +kernel
theorem dL_law__2139 : decode cL_law_ 2139 = .ok (.iadd, 1) := by decide +kernel
theorem dL_law__2140 : decode cL_law_ 2140 = .ok (.iaload, 1) := by decide +kernel
theorem dL_law__2141 : decode cL_law_ 2141 = .ok (.aload_n 3, 1) := by decide +kernel
theorem dL_law__2142 : decode cL_law_ 2142 = .ok (.invokestatic 218, 3) := by decide +kernel
theorem dL_law__2145 : decode cL_law_ 2145 = .ok (.istore 5, 2) := by decide +kernel
theorem dL_law__2147 : decode cL_law_ 2147 = .ok (.aload_n 2, 1) := by decide +kernel
theorem dL_law__2148 : decode cL_law_ 2148 = .ok (.aload_n 0, 1) := by decide +kernel
theorem dL_law__2149 : decode cL_law_ 2149 = .ok (.iload 4, 2) := by decide +kernel
theorem dL_law__2151 : decode cL_law_ 2151 = .ok (.iconst 1, 1) := by decide +kernel
theorem dL_law__2152 : decode cL_law_ 2152 = .ok (.iadd, 1) := by decide +kernel
theorem dL_law__2153 : decode cL_law_ 2153 = .ok (.iaload, 1) := by decide +kernel
theorem dL_law__2154 : decode cL_law_ 2154 = .ok (.aload_n 0, 1) := by decide +kernel
theorem dL_law__2155 : decode cL_law_ 2155 = .ok (.iload 4, 2) := by decide +kernel
theorem dL_law__2157 : decode cL_law_ 2157 = .ok (.iconst 2, 1) := by decide +kernel
theorem dL_law__2158 : decode cL_law_ 2158 = .ok (.iadd, 1) := by decide +kernel
theorem dL_law__2159 : decode cL_law_ 2159 = .ok (.iaload, 1) := by decide +kernel
theorem dL_law__2160 : decode cL_law_ 2160 = .ok (.aload_n 0, 1) := by decide +kernel
theorem dL_law__2161 : decode cL_law_ 2161 = .ok (.iload 4, 2) := by decide +kernel
theorem dL_law__2163 : decode cL_law_ 2163 = .ok (.iconst 3, 1) := by decide +kernel
theorem dL_law__2164 : decode cL_law_ 2164 = .ok (.iadd, 1) := by decide +kernel
theorem dL_law__2165 : decode cL_law_ 2165 = .ok (.iaload, 1) := by decide +kernel
theorem dL_law__2166 : decode cL_law_ 2166 = .ok (.invokevirtual 220, 3) := by decide +kernel
theorem dL_law__2169 : decode cL_law_ 2169 = .ok (.istore 6, 2) := by decide +kernel
theorem dL_law__2171 : decode cL_law_ 2171 = .ok (.aload_n 2, 1) := by decide +kernel
theorem dL_law__2172 : decode cL_law_ 2172 = .ok (.invokevirtual 124, 3) := by decide +kernel
theorem dL_law__2175 : decode cL_law_ 2175 = .ok (.iload 5, 2) := by decide +kernel
theorem dL_law__2177 : decode cL_law_ 2177 = .ok (.if_icmp .eq 5, 3) := by decide +kernel
theorem dL_law__2180 : decode cL_law_ 2180 = .ok (.iconst 0, 1) := by decide +kernel
theorem dL_law__2181 : decode cL_law_ 2181 = .ok (.ireturn, 1) := by decide +kernel
theorem dL_law__2182 : decode cL_law_ 2182 = .ok (.iload 5, 2) := by decide +kernel
theorem dL_law__2184 : decode cL_law_ 2184 = .ok (.ifCond .ne 15, 3) := by decide +kernel
theorem dL_law__2187 : decode cL_law_ 2187 = .ok (.aload_n 3, 1) := by decide +kernel
theorem dL_law__2188 : decode cL_law_ 2188 = .ok (.iconst 0, 1) := by decide +kernel
theorem dL_law__2189 : decode cL_law_ 2189 = .ok (.laload, 1) := by decide +kernel
theorem dL_law__2190 : decode cL_law_ 2190 = .ok (.iload 6, 2) := by decide +kernel
theorem dL_law__2192 : decode cL_law_ 2192 = .ok (.i2l, 1) := by decide +kernel
theorem dL_law__2193 : decode cL_law_ 2193 = .ok (.lcmp, 1) := by decide +kernel
theorem dL_law__2194 : decode cL_law_ 2194 = .ok (.ifCond .eq 5, 3) := by decide +kernel
theorem dL_law__2197 : decode cL_law_ 2197 = .ok (.iconst 0, 1) := by decide +kernel
theorem dL_law__2198 : decode cL_law_ 2198 = .ok (.ireturn, 1) := by decide +kernel
theorem dL_law__2199 : decode cL_law_ 2199 = .ok (.goto 267, 3) := by decide +kernel
theorem dL_law__2202 : decode cL_law_ 2202 = .ok (.aload_n 1, 1) := by decide +kernel
theorem dL_law__2203 : decode cL_law_ 2203 = .ok (.aload_n 0, 1) := by decide +kernel
theorem dL_law__2204 : decode cL_law_ 2204 = .ok (.iload 4, 2) := by decide +kernel
theorem dL_law__2206 : decode cL_law_ 2206 = .ok (.iconst 1, 1) := by decide +kernel
theorem dL_law__2207 : decode cL_law_ 2207 = .ok (.iadd, 1) := by decide +kernel
theorem dL_law__2208 : decode cL_law_ 2208 = .ok (.iaload, 1) := by decide +kernel
theorem dL_law__2209 : decode cL_law_ 2209 = .ok (.aload_n 0, 1) := by decide +kernel
theorem dL_law__2210 : decode cL_law_ 2210 = .ok (.iload 4, 2) := by decide +kernel
theorem dL_law__2212 : decode cL_law_ 2212 = .ok (.iconst 2, 1) := by decide +kernel
theorem dL_law__2213 : decode cL_law_ 2213 = .ok (.iadd, 1) := by decide +kernel
theorem dL_law__2214 : decode cL_law_ 2214 = .ok (.iaload, 1) := by decide +kernel
theorem dL_law__2215 : decode cL_law_ 2215 = .ok (.aload_n 0, 1) := by decide +kernel
theorem dL_law__2216 : decode cL_law_ 2216 = .ok (.iload 4, 2) := by decide +kernel
theorem dL_law__2218 : decode cL_law_ 2218 = .ok (.iconst 3, 1) := by decide +kernel
theorem dL_law__2219 : decode cL_law_ 2219 = .ok (.iadd, 1) := by decide +kernel
theorem dL_law__2220 : decode cL_law_ 2220 = .ok (.iaload, 1) := by decide +kernel
theorem dL_law__2221 : decode cL_law_ 2221 = .ok (.aload_n 0, 1) := by decide +kernel
theorem dL_law__2222 : decode cL_law_ 2222 = .ok (.iload 4, 2) := by decide +kernel
theorem dL_law__2224 : decode cL_law_ 2224 = .ok (.iconst 4, 1) := by decide +kernel
theorem dL_law__2225 : decode cL_law_ 2225 = .ok (.iadd, 1) := by decide +kernel
theorem dL_law__2226 : decode cL_law_ 2226 = .ok (.iaload, 1) := by decide +kernel
theorem dL_law__2227 : decode cL_law_ 2227 = .ok (.aload_n 3, 1) := by decide +kernel
theorem dL_law__2228 : decode cL_law_ 2228 = .ok (.invokestatic 221, 3) := by decide +kernel
theorem dL_law__2231 : decode cL_law_ 2231 = .ok (.istore 5, 2) := by decide +kernel
theorem dL_law__2233 : decode cL_law_ 2233 = .ok (.aload_n 2, 1) := by decide +kernel
theorem dL_law__2234 : decode cL_law_ 2234 = .ok (.aload_n 0, 1) := by decide +kernel
theorem dL_law__2235 : decode cL_law_ 2235 = .ok (.iload 4, 2) := by decide +kernel
theorem dL_law__2237 : decode cL_law_ 2237 = .ok (.iconst 1, 1) := by decide +kernel
theorem dL_law__2238 : decode cL_law_ 2238 = .ok (.iadd, 1) := by decide +kernel
theorem dL_law__2239 : decode cL_law_ 2239 = .ok (.iaload, 1) := by decide +kernel
theorem dL_law__2240 : decode cL_law_ 2240 = .ok (.aload_n 0, 1) := by decide +kernel
theorem dL_law__2241 : decode cL_law_ 2241 = .ok (.iload 4, 2) := by decide +kernel
theorem dL_law__2243 : decode cL_law_ 2243 = .ok (.iconst 2, 1) := by decide +kernel
theorem dL_law__2244 : decode cL_law_ 2244 = .ok (.iadd, 1) := by decide +kernel
theorem dL_law__2245 : decode cL_law_ 2245 = .ok (.iaload, 1) := by decide +kernel
theorem dL_law__2246 : decode cL_law_ 2246 = .ok (.aload_n 0, 1) := by decide +kernel
theorem dL_law__2247 : decode cL_law_ 2247 = .ok (.iload 4, 2) := by decide +kernel
theorem dL_law__2249 : decode cL_law_ 2249 = .ok (.iconst 3, 1) := by decide +kernel
theorem dL_law__2250 : decode cL_law_ 2250 = .ok (.iadd, 1) := by decide +kernel
theorem dL_law__2251 : decode cL_law_ 2251 = .ok (.iaload, 1) := by decide +kernel
theorem dL_law__2252 : decode cL_law_ 2252 = .ok (.aload_n 0, 1) := by decide +kernel
theorem dL_law__2253 : decode cL_law_ 2253 = .ok (.iload 4, 2) := by decide +kernel
theorem dL_law__2255 : decode cL_law_ 2255 = .ok (.iconst 4, 1) := by decide +kernel
theorem dL_law__2256 : decode cL_law_ 2256 = .ok (.iadd, 1) := by decide +kernel
theorem dL_law__2257 : decode cL_law_ 2257 = .ok (.iaload, 1) := by decide +kernel
theorem dL_law__2258 : decode cL_law_ 2258 = .ok (.invokevirtual 223, 3) := by decide +kernel
theorem dL_law__2261 : decode cL_law_ 2261 = .ok (.istore 6, 2) := by decide +kernel
theorem dL_law__2263 : decode cL_law_ 2263 = .ok (.aload_n 2, 1) := by decide +kernel
theorem dL_law__2264 : decode cL_law_ 2264 = .ok (.invokevirtual 124, 3) := by decide +kernel
theorem dL_law__2267 : decode cL_law_ 2267 = .ok (.iload 5, 2) := by decide +kernel
theorem dL_law__2269 : decode cL_law_ 2269 = .ok (.if_icmp .eq 5, 3) := by decide +kernel
theorem dL_law__2272 : decode cL_law_ 2272 = .ok (.iconst 0, 1) := by decide +kernel
theorem dL_law__2273 : decode cL_law_ 2273 = .ok (.ireturn, 1) := by decide +kernel
theorem dL_law__2274 : decode cL_law_ 2274 = .ok (.iload 5, 2) := by decide +kernel
theorem dL_law__2276 : decode cL_law_ 2276 = .ok (.ifCond .ne 15, 3) := by decide +kernel
theorem dL_law__2279 : decode cL_law_ 2279 = .ok (.aload_n 3, 1) := by decide +kernel
theorem dL_law__2280 : decode cL_law_ 2280 = .ok (.iconst 0, 1) := by decide +kernel
theorem dL_law__2281 : decode cL_law_ 2281 = .ok (.laload, 1) := by decide +kernel
theorem dL_law__2282 : decode cL_law_ 2282 = .ok (.iload 6, 2) := by decide +kernel
theorem dL_law__2284 : decode cL_law_ 2284 = .ok (.i2l, 1) := by decide +kernel
theorem dL_law__2285 : decode cL_law_ 2285 = .ok (.lcmp, 1) := by decide +kernel
theorem dL_law__2286 : decode cL_law_ 2286 = .ok (.ifCond .eq 5, 3) := by decide +kernel
theorem dL_law__2289 : decode cL_law_ 2289 = .ok (.iconst 0, 1) := by decide +kernel
theorem dL_law__2290 : decode cL_law_ 2290 = .ok (.ireturn, 1) := by decide +kernel
theorem dL_law__2291 : decode cL_law_ 2291 = .ok (.goto 175, 3) := by decide +kernel
theorem dL_law__2294 : decode cL_law_ 2294 = .ok (.aload_n 1, 1) := by decide +kernel
theorem dL_law__2295 : decode cL_law_ 2295 = .ok (.aload_n 0, 1) := by decide +kernel
theorem dL_law__2296 : decode cL_law_ 2296 = .ok (.iload 4, 2) := by decide +kernel
theorem dL_law__2298 : decode cL_law_ 2298 = .ok (.iconst 1, 1) := by decide +kernel
theorem dL_law__2299 : decode cL_law_ 2299 = .ok (.iadd, 1) := by decide +kernel
theorem dL_law__2300 : decode cL_law_ 2300 = .ok (.iaload, 1) := by decide +kernel
theorem dL_law__2301 : decode cL_law_ 2301 = .ok (.aload_n 0, 1) := by decide +kernel
theorem dL_law__2302 : decode cL_law_ 2302 = .ok (.iload 4, 2) := by decide +kernel
theorem dL_law__2304 : decode cL_law_ 2304 = .ok (.iconst 2, 1) := by decide +kernel
theorem dL_law__2305 : decode cL_law_ 2305 = .ok (.iadd, 1) := by decide +kernel
theorem dL_law__2306 : decode cL_law_ 2306 = .ok (.iaload, 1) := by decide +kernel
theorem dL_law__2307 : decode cL_law_ 2307 = .ok (.aload_n 0, 1) := by decide +kernel
theorem dL_law__2308 : decode cL_law_ 2308 = .ok (.iload 4, 2) := by decide +kernel
theorem dL_law__2310 : decode cL_law_ 2310 = .ok (.iconst 3, 1) := by decide +kernel
theorem dL_law__2311 : decode cL_law_ 2311 = .ok (.iadd, 1) := by decide +kernel
theorem dL_law__2312 : decode cL_law_ 2312 = .ok (.iaload, 1) := by decide +kernel
theorem dL_law__2313 : decode cL_law_ 2313 = .ok (.aload_n 0, 1) := by decide +kernel
theorem dL_law__2314 : decode cL_law_ 2314 = .ok (.iload 4, 2) := by decide +kernel
theorem dL_law__2316 : decode cL_law_ 2316 = .ok (.iconst 4, 1) := by decide +kernel
theorem dL_law__2317 : decode cL_law_ 2317 = .ok (.iadd, 1) := by decide +kernel
theorem dL_law__2318 : decode cL_law_ 2318 = .ok (.iaload, 1) := by decide +kernel
theorem dL_law__2319 : decode cL_law_ 2319 = .ok (.aload_n 3, 1) := by decide +kernel
theorem dL_law__2320 : decode cL_law_ 2320 = .ok (.invokestatic 224, 3) := by decide +kernel
theorem dL_law__2323 : decode cL_law_ 2323 = .ok (.istore 5, 2) := by decide +kernel
theorem dL_law__2325 : decode cL_law_ 2325 = .ok (.aload_n 2, 1) := by decide +kernel
theorem dL_law__2326 : decode cL_law_ 2326 = .ok (.aload_n 0, 1) := by decide +kernel
theorem dL_law__2327 : decode cL_law_ 2327 = .ok (.iload 4, 2) := by decide +kernel
theorem dL_law__2329 : decode cL_law_ 2329 = .ok (.iconst 1, 1) := by decide +kernel
theorem dL_law__2330 : decode cL_law_ 2330 = .ok (.iadd, 1) := by decide +kernel
theorem dL_law__2331 : decode cL_law_ 2331 = .ok (.iaload, 1) := by decide +kernel
theorem dL_law__2332 : decode cL_law_ 2332 = .ok (.aload_n 0, 1) := by decide +kernel
theorem dL_law__2333 : decode cL_law_ 2333 = .ok (.iload 4, 2) := by decide +kernel
theorem dL_law__2335 : decode cL_law_ 2335 = .ok (.iconst 2, 1) := by decide +kernel
theorem dL_law__2336 : decode cL_law_ 2336 = .ok (.iadd, 1) := by decide +kernel
theorem dL_law__2337 : decode cL_law_ 2337 = .ok (.iaload, 1) := by decide +kernel
theorem dL_law__2338 : decode cL_law_ 2338 = .ok (.aload_n 0, 1) := by decide +kernel
theorem dL_law__2339 : decode cL_law_ 2339 = .ok (.iload 4, 2) := by decide +kernel
theorem dL_law__2341 : decode cL_law_ 2341 = .ok (.iconst 3, 1) := by decide +kernel
theorem dL_law__2342 : decode cL_law_ 2342 = .ok (.iadd, 1) := by decide +kernel
theorem dL_law__2343 : decode cL_law_ 2343 = .ok (.iaload, 1) := by decide +kernel
theorem dL_law__2344 : decode cL_law_ 2344 = .ok (.aload_n 0, 1) := by decide +kernel
theorem dL_law__2345 : decode cL_law_ 2345 = .ok (.iload 4, 2) := by decide +kernel
theorem dL_law__2347 : decode cL_law_ 2347 = .ok (.iconst 4, 1) := by decide +kernel
theorem dL_law__2348 : decode cL_law_ 2348 = .ok (.iadd, 1) := by decide +kernel
theorem dL_law__2349 : decode cL_law_ 2349 = .ok (.iaload, 1) := by decide +kernel
theorem dL_law__2350 : decode cL_law_ 2350 = .ok (.invokevirtual 226, 3) := by decide +kernel
theorem dL_law__2353 : decode cL_law_ 2353 = .ok (.istore 6, 2) := by decide +kernel
theorem dL_law__2355 : decode cL_law_ 2355 = .ok (.aload_n 2, 1) := by decide +kernel
theorem dL_law__2356 : decode cL_law_ 2356 = .ok (.invokevirtual 124, 3) := by decide +kernel
theorem dL_law__2359 : decode cL_law_ 2359 = .ok (.iload 5, 2) := by decide +kernel
theorem dL_law__2361 : decode cL_law_ 2361 = .ok (.if_icmp .eq 5, 3) := by decide +kernel
theorem dL_law__2364 : decode cL_law_ 2364 = .ok (.iconst 0, 1) := by decide +kernel
theorem dL_law__2365 : decode cL_law_ 2365 = .ok (.ireturn, 1) := by decide +kernel
theorem dL_law__2366 : decode cL_law_ 2366 = .ok (.iload 5, 2) := by decide +kernel
theorem dL_law__2368 : decode cL_law_ 2368 = .ok (.ifCond .ne 15, 3) := by decide +kernel
theorem dL_law__2371 : decode cL_law_ 2371 = .ok (.aload_n 3, 1) := by decide +kernel
theorem dL_law__2372 : decode cL_law_ 2372 = .ok (.iconst 0, 1) := by decide +kernel
theorem dL_law__2373 : decode cL_law_ 2373 = .ok (.laload, 1) := by decide +kernel
theorem dL_law__2374 : decode cL_law_ 2374 = .ok (.iload 6, 2) := by decide +kernel
theorem dL_law__2376 : decode cL_law_ 2376 = .ok (.i2l, 1) := by decide +kernel
theorem dL_law__2377 : decode cL_law_ 2377 = .ok (.lcmp, 1) := by decide +kernel
theorem dL_law__2378 : decode cL_law_ 2378 = .ok (.ifCond .eq 5, 3) := by decide +kernel
theorem dL_law__2381 : decode cL_law_ 2381 = .ok (.iconst 0, 1) := by decide +kernel
theorem dL_law__2382 : decode cL_law_ 2382 = .ok (.ireturn, 1) := by decide +kernel
theorem dL_law__2383 : decode cL_law_ 2383 = .ok (.goto 83, 3) := by decide +kernel
theorem dL_law__2386 : decode cL_law_ 2386 = .ok (.aload_n 1, 1) := by decide +kernel
theorem dL_law__2387 : decode cL_law_ 2387 = .ok (.aload_n 0, 1) := by decide +kernel
theorem dL_law__2388 : decode cL_law_ 2388 = .ok (.iload 4, 2) := by decide +kernel
theorem dL_law__2390 : decode cL_law_ 2390 = .ok (.iconst 1, 1) := by decide +kernel
theorem dL_law__2391 : decode cL_law_ 2391 = .ok (.iadd, 1) := by decide +kernel
theorem dL_law__2392 : decode cL_law_ 2392 = .ok (.iaload, 1) := by decide +kernel
theorem dL_law__2393 : decode cL_law_ 2393 = .ok (.aload_n 3, 1) := by decide +kernel
theorem dL_law__2394 : decode cL_law_ 2394 = .ok (.invokestatic 227, 3) := by decide +kernel
theorem dL_law__2397 : decode cL_law_ 2397 = .ok (.istore 5, 2) := by decide +kernel
theorem dL_law__2399 : decode cL_law_ 2399 = .ok (.aload_n 2, 1) := by decide +kernel
theorem dL_law__2400 : decode cL_law_ 2400 = .ok (.aload_n 0, 1) := by decide +kernel
theorem dL_law__2401 : decode cL_law_ 2401 = .ok (.iload 4, 2) := by decide +kernel
theorem dL_law__2403 : decode cL_law_ 2403 = .ok (.iconst 1, 1) := by decide +kernel
theorem dL_law__2404 : decode cL_law_ 2404 = .ok (.iadd, 1) := by decide +kernel
theorem dL_law__2405 : decode cL_law_ 2405 = .ok (.iaload, 1) := by decide +kernel
theorem dL_law__2406 : decode cL_law_ 2406 = .ok (.invokevirtual 229, 3) := by decide +kernel
theorem dL_law__2409 : decode cL_law_ 2409 = .ok (.istore 6, 2) := by decide +kernel
theorem dL_law__2411 : decode cL_law_ 2411 = .ok (.aload_n 2, 1) := by decide +kernel
theorem dL_law__2412 : decode cL_law_ 2412 = .ok (.invokevirtual 124, 3) := by decide +kernel
theorem dL_law__2415 : decode cL_law_ 2415 = .ok (.iload 5, 2) := by decide +kernel
theorem dL_law__2417 : decode cL_law_ 2417 = .ok (.if_icmp .eq 5, 3) := by decide +kernel
theorem dL_law__2420 : decode cL_law_ 2420 = .ok (.iconst 0, 1) := by decide +kernel
theorem dL_law__2421 : decode cL_law_ 2421 = .ok (.ireturn, 1) := by decide +kernel
theorem dL_law__2422 : decode cL_law_ 2422 = .ok (.iload 5, 2) := by decide +kernel
theorem dL_law__2424 : decode cL_law_ 2424 = .ok (.ifCond .ne 15, 3) := by decide +kernel
theorem dL_law__2427 : decode cL_law_ 2427 = .ok (.aload_n 3, 1) := by decide +kernel
theorem dL_law__2428 : decode cL_law_ 2428 = .ok (.iconst 0, 1) := by decide +kernel
theorem dL_law__2429 : decode cL_law_ 2429 = .ok (.laload, 1) := by decide +kernel
theorem dL_law__2430 : decode cL_law_ 2430 = .ok (.iload 6, 2) := by decide +kernel
theorem dL_law__2432 : decode cL_law_ 2432 = .ok (.i2l, 1) := by decide +kernel
theorem dL_law__2433 : decode cL_law_ 2433 = .ok (.lcmp, 1) := by decide +kernel
theorem dL_law__2434 : decode cL_law_ 2434 = .ok (.ifCond .eq 5, 3) := by decide +kernel
theorem dL_law__2437 : decode cL_law_ 2437 = .ok (.iconst 0, 1) := by decide +kernel
theorem dL_law__2438 : decode cL_law_ 2438 = .ok (.ireturn, 1) := by decide +kernel
theorem dL_law__2439 : decode cL_law_ 2439 = .ok (.goto 27, 3) := by decide +kernel
theorem dL_law__2442 : decode cL_law_ 2442 = .ok (.aload_n 1, 1) := by decide +kernel
theorem dL_law__2443 : decode cL_law_ 2443 = .ok (.invokevirtual 230, 3) := by decide +kernel
theorem dL_law__2446 : decode cL_law_ 2446 = .ok (.aload_n 2, 1) := by decide +kernel
theorem dL_law__2447 : decode cL_law_ 2447 = .ok (.invokevirtual 233, 3) := by decide +kernel
theorem dL_law__2450 : decode cL_law_ 2450 = .ok (.goto 16, 3) := by decide +kernel
theorem dL_law__2453 : decode cL_law_ 2453 = .ok (.aload_n 1, 1) := by decide +kernel
theorem dL_law__2454 : decode cL_law_ 2454 = .ok (.invokevirtual 234, 3) := by decide +kernel
theorem dL_law__2457 : decode cL_law_ 2457 = .ok (.aload_n 2, 1) := by decide +kernel
theorem dL_law__2458 : decode cL_law_ 2458 = .ok (.invokevirtual 238, 3) := by decide +kernel
theorem dL_law__2461 : decode cL_law_ 2461 = .ok (.if_icmp .eq 5, 3) := by decide +kernel
theorem dL_law__2464 : decode cL_law_ 2464 = .ok (.iconst 0, 1) := by decide +kernel
theorem dL_law__2465 : decode cL_law_ 2465 = .ok (.ireturn, 1) := by decide +kernel
theorem dL_law__2466 : decode cL_law_ 2466 = .ok (.iinc 4 6, 3) := by decide +kernel
theorem dL_law__2469 : decode cL_law_ 2469 = .ok (.goto (-2446), 3) := by decide +kernel
theorem dL_law__2472 : decode cL_law_ 2472 = .ok (.iconst 1, 1) := by decide +kernel
theorem dL_law__2473 : decode cL_law_ 2473 = .ok (.ireturn, 1) := by decide +kernel
