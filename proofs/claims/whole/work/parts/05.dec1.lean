theorem dX0_init_0 : decode cX0_init 0 = .ok (.aload_n 0, 1) := by decide +kernel
theorem dX0_init_1 : decode cX0_init 1 = .ok (.invokespecial 3, 3) := by decide +kernel
theorem dX0_init_4 : decode cX0_init 4 = .ok (.aload_n 0, 1) := by decide +kernel
theorem dX0_init_5 : decode cX0_init 5 = .ok (.bipush 40, 2) := by decide +kernel
theorem dX0_init_7 : decode cX0_init 7 = .ok (.newarray .int, 2) := by decide +kernel
theorem dX0_init_9 : decode cX0_init 9 = .ok (.putfield 9, 3) := by decide +kernel
theorem dX0_init_12 : decode cX0_init 12 = .ok (.aload_n 0, 1) := by decide +kernel
theorem dX0_init_13 : decode cX0_init 13 = .ok (.bipush 40, 2) := by decide +kernel
theorem dX0_init_15 : decode cX0_init 15 = .ok (.newarray .int, 2) := by decide +kernel
theorem dX0_init_17 : decode cX0_init 17 = .ok (.putfield 15, 3) := by decide +kernel
theorem dX0_init_20 : decode cX0_init 20 = .ok (.aload_n 0, 1) := by decide +kernel
theorem dX0_init_21 : decode cX0_init 21 = .ok (.bipush 40, 2) := by decide +kernel
theorem dX0_init_23 : decode cX0_init 23 = .ok (.newarray .int, 2) := by decide +kernel
theorem dX0_init_25 : decode cX0_init 25 = .ok (.putfield 18, 3) := by decide +kernel
theorem dX0_init_28 : decode cX0_init 28 = .ok (.aload_n 0, 1) := by decide +kernel
theorem dX0_init_29 : decode cX0_init 29 = .ok (.bipush 40, 2) := by decide +kernel
theorem dX0_init_31 : decode cX0_init 31 = .ok (.newarray .int, 2) := by decide +kernel
theorem dX0_init_33 : decode cX0_init 33 = .ok (.putfield 21, 3) := by decide +kernel
theorem dX0_init_36 : decode cX0_init 36 = .ok (.aload_n 0, 1) := by decide +kernel
theorem dX0_init_37 : decode cX0_init 37 = .ok (.bipush 40, 2) := by decide +kernel
theorem dX0_init_39 : decode cX0_init 39 = .ok (.newarray .int, 2) := by decide +kernel
theorem dX0_init_41 : decode cX0_init 41 = .ok (.putfield 24, 3) := by decide +kernel
theorem dX0_init_44 : decode cX0_init 44 = .ok (.aload_n 0, 1) := by decide +kernel
theorem dX0_init_45 : decode cX0_init 45 = .ok (.bipush 40, 2) := by decide +kernel
theorem dX0_init_47 : decode cX0_init 47 = .ok (.newarray .int, 2) := by decide +kernel
theorem dX0_init_49 : decode cX0_init 49 = .ok (.putfield 27, 3) := by decide +kernel
theorem dX0_init_52 : decode cX0_init 52 = .ok (.aload_n 0, 1) := by decide +kernel
theorem dX0_init_53 : decode cX0_init 53 = .ok (.new 30, 3) := by decide +kernel
theorem dX0_init_56 : decode cX0_init 56 = .ok (.dup, 1) := by decide +kernel
theorem dX0_init_57 : decode cX0_init 57 = .ok (.invokespecial 32, 3) := by decide +kernel
theorem dX0_init_60 : decode cX0_init 60 = .ok (.putfield 33, 3) := by decide +kernel
theorem dX0_init_63 : decode cX0_init 63 = .ok (.aload_n 0, 1) := by decide +kernel
theorem dX0_init_64 : decode cX0_init 64 = .ok (.new 30, 3) := by decide +kernel
theorem dX0_init_67 : decode cX0_init 67 = .ok (.dup, 1) := by decide +kernel
theorem dX0_init_68 : decode cX0_init 68 = .ok (.invokespecial 32, 3) := by decide +kernel
theorem dX0_init_71 : decode cX0_init 71 = .ok (.putfield 37, 3) := by decide +kernel
theorem dX0_init_74 : decode cX0_init 74 = .ok (.aload_n 0, 1) := by decide +kernel
theorem dX0_init_75 : decode cX0_init 75 = .ok (.iconst 4, 1) := by decide +kernel
theorem dX0_init_76 : decode cX0_init 76 = .ok (.newarray .int, 2) := by decide +kernel
theorem dX0_init_78 : decode cX0_init 78 = .ok (.putfield 40, 3) := by decide +kernel
theorem dX0_init_81 : decode cX0_init 81 = .ok (.aload_n 0, 1) := by decide +kernel
theorem dX0_init_82 : decode cX0_init 82 = .ok (.iconst 4, 1) := by decide +kernel
theorem dX0_init_83 : decode cX0_init 83 = .ok (.newarray .int, 2) := by decide +kernel
theorem dX0_init_85 : decode cX0_init 85 = .ok (.putfield 43, 3) := by decide +kernel
theorem dX0_init_88 : decode cX0_init 88 = .ok (.aload_n 0, 1) := by decide +kernel
theorem dX0_init_89 : decode cX0_init 89 = .ok (.bipush 8, 2) := by decide +kernel
theorem dX0_init_91 : decode cX0_init 91 = .ok (.newarray .int, 2) := by decide +kernel
theorem dX0_init_93 : decode cX0_init 93 = .ok (.putfield 46, 3) := by decide +kernel
theorem dX0_init_96 : decode cX0_init 96 = .ok (.aload_n 0, 1) := by decide +kernel
theorem dX0_init_97 : decode cX0_init 97 = .ok (.bipush 8, 2) := by decide +kernel
theorem dX0_init_99 : decode cX0_init 99 = .ok (.newarray .int, 2) := by decide +kernel
theorem dX0_init_101 : decode cX0_init 101 = .ok (.putfield 49, 3) := by decide +kernel
theorem dX0_init_104 : decode cX0_init 104 = .ok (.aload_n 0, 1) := by decide +kernel
theorem dX0_init_105 : decode cX0_init 105 = .ok (.bipush 8, 2) := by decide +kernel
theorem dX0_init_107 : decode cX0_init 107 = .ok (.newarray .int, 2) := by decide +kernel
theorem dX0_init_109 : decode cX0_init 109 = .ok (.putfield 52, 3) := by decide +kernel
theorem dX0_init_112 : decode cX0_init 112 = .ok (.return_, 1) := by decide +kernel
theorem dX0_write_0 : decode cX0_write 0 = .ok (.aload_n 0, 1) := by decide +kernel
theorem dX0_write_1 : decode cX0_write 1 = .ok (.invokevirtual 55, 3) := by decide +kernel
theorem dX0_write_4 : decode cX0_write 4 = .ok (.iconst 0, 1) := by decide +kernel
theorem dX0_write_5 : decode cX0_write 5 = .ok (.istore_n 2, 1) := by decide +kernel
theorem dX0_write_6 : decode cX0_write 6 = .ok (.iload_n 2, 1) := by decide +kernel
theorem dX0_write_7 : decode cX0_write 7 = .ok (.sipush 500, 3) := by decide +kernel
theorem dX0_write_10 : decode cX0_write 10 = .ok (.if_icmp .ge 25, 3) := by decide +kernel
theorem dX0_write_13 : decode cX0_write 13 = .ok (.aload_n 1, 1) := by decide +kernel
theorem dX0_write_14 : decode cX0_write 14 = .ok (.invokevirtual 58, 3) := by decide +kernel
theorem dX0_write_17 : decode cX0_write 17 = .ok (.ifCond .eq 18, 3) := by decide +kernel
theorem dX0_write_20 : decode cX0_write 20 = .ok (.aload_n 0, 1) := by decide +kernel
theorem dX0_write_21 : decode cX0_write 21 = .ok (.aload_n 1, 1) := by decide +kernel
theorem dX0_write_22 : decode cX0_write 22 = .ok (.invokevirtual 64, 3) := by decide +kernel
theorem dX0_write_25 : decode cX0_write 25 = .ok (.aload_n 1, 1) := by decide +kernel
theorem dX0_write_26 : decode cX0_write 26 = .ok (.invokevirtual 68, 3) := by decide +kernel
theorem dX0_write_29 : decode cX0_write 29 = .ok (.iinc 2 1, 3) := by decide +kernel
theorem dX0_write_32 : decode cX0_write 32 = .ok (.goto (-26), 3) := by decide +kernel
theorem dX0_write_35 : decode cX0_write 35 = .ok (.return_, 1) := by decide +kernel
theorem dX0_wipe_0 : decode cX0_wipe 0 = .ok (.aload_n 0, 1) := by decide +kernel
theorem dX0_wipe_1 : decode cX0_wipe 1 = .ok (.iconst 0, 1) := by decide +kernel
theorem dX0_wipe_2 : decode cX0_wipe 2 = .ok (.putfield 71, 3) := by decide +kernel
theorem dX0_wipe_5 : decode cX0_wipe 5 = .ok (.aload_n 0, 1) := by decide +kernel
theorem dX0_wipe_6 : decode cX0_wipe 6 = .ok (.iconst 0, 1) := by decide +kernel
theorem dX0_wipe_7 : decode cX0_wipe 7 = .ok (.putfield 75, 3) := by decide +kernel
theorem dX0_wipe_10 : decode cX0_wipe 10 = .ok (.aload_n 0, 1) := by decide +kernel
theorem dX0_wipe_11 : decode cX0_wipe 11 = .ok (.iconst 0, 1) := by decide +kernel
theorem dX0_wipe_12 : decode cX0_wipe 12 = .ok (.putfield 78, 3) := by decide +kernel
theorem dX0_wipe_15 : decode cX0_wipe 15 = .ok (.aload_n 0, 1) := by decide +kernel
theorem dX0_wipe_16 : decode cX0_wipe 16 = .ok (.iconst 0, 1) := by decide +kernel
theorem dX0_wipe_17 : decode cX0_wipe 17 = .ok (.putfield 81, 3) := by decide +kernel
theorem dX0_wipe_20 : decode cX0_wipe 20 = .ok (.aload_n 0, 1) := by decide +kernel
theorem dX0_wipe_21 : decode cX0_wipe 21 = .ok (.iconst 0, 1) := by decide +kernel
theorem dX0_wipe_22 : decode cX0_wipe 22 = .ok (.putfield 84, 3) := by decide +kernel
theorem dX0_wipe_25 : decode cX0_wipe 25 = .ok (.aload_n 0, 1) := by decide +kernel
theorem dX0_wipe_26 : decode cX0_wipe 26 = .ok (.iconst 0, 1) := by decide +kernel
theorem dX0_wipe_27 : decode cX0_wipe 27 = .ok (.putfield 87, 3) := by decide +kernel
theorem dX0_wipe_30 : decode cX0_wipe 30 = .ok (.aload_n 0, 1) := by decide +kernel
theorem dX0_wipe_31 : decode cX0_wipe 31 = .ok (.getfield 33, 3) := by decide +kernel
theorem dX0_wipe_34 : decode cX0_wipe 34 = .ok (.invokevirtual 90, 3) := by decide +kernel
theorem dX0_wipe_37 : decode cX0_wipe 37 = .ok (.aload_n 0, 1) := by decide +kernel
theorem dX0_wipe_38 : decode cX0_wipe 38 = .ok (.getfield 37, 3) := by decide +kernel
theorem dX0_wipe_41 : decode cX0_wipe 41 = .ok (.invokevirtual 90, 3) := by decide +kernel
theorem dX0_wipe_44 : decode cX0_wipe 44 = .ok (.return_, 1) := by decide +kernel
theorem dX0_writeLine_0 : decode cX0_writeLine 0 = .ok (.aload_n 1, 1) := by decide +kernel
theorem dX0_writeLine_1 : decode cX0_writeLine 1 = .ok (.ldc 91, 2) := by decide +kernel
theorem dX0_writeLine_3 : decode cX0_writeLine 3 = .ok (.invokevirtual 93, 3) := by decide +kernel
theorem dX0_writeLine_6 : decode cX0_writeLine 6 = .ok (.ifCond .eq 11, 3) := by decide +kernel
theorem dX0_writeLine_9 : decode cX0_writeLine 9 = .ok (.aload_n 0, 1) := by decide +kernel
theorem dX0_writeLine_10 : decode cX0_writeLine 10 = .ok (.aload_n 1, 1) := by decide +kernel
theorem dX0_writeLine_11 : decode cX0_writeLine 11 = .ok (.invokevirtual 97, 3) := by decide +kernel
theorem dX0_writeLine_14 : decode cX0_writeLine 14 = .ok (.goto 69, 3) := by decide +kernel
theorem dX0_writeLine_17 : decode cX0_writeLine 17 = .ok (.aload_n 1, 1) := by decide +kernel
theorem dX0_writeLine_18 : decode cX0_writeLine 18 = .ok (.ldc 100, 2) := by decide +kernel
theorem dX0_writeLine_20 : decode cX0_writeLine 20 = .ok (.invokevirtual 93, 3) := by decide +kernel
theorem dX0_writeLine_23 : decode cX0_writeLine 23 = .ok (.ifCond .eq 17, 3) := by decide +kernel
theorem dX0_writeLine_26 : decode cX0_writeLine 26 = .ok (.aload_n 0, 1) := by decide +kernel
theorem dX0_writeLine_27 : decode cX0_writeLine 27 = .ok (.aload_n 1, 1) := by decide +kernel
theorem dX0_writeLine_28 : decode cX0_writeLine 28 = .ok (.iconst 0, 1) := by decide +kernel
theorem dX0_writeLine_29 : decode cX0_writeLine 29 = .ok (.bipush 100, 2) := by decide +kernel
theorem dX0_writeLine_31 : decode cX0_writeLine 31 = .ok (.invokevirtual 101, 3) := by decide +kernel
theorem dX0_writeLine_34 : decode cX0_writeLine 34 = .ok (.putfield 81, 3) := by decide +kernel
theorem dX0_writeLine_37 : decode cX0_writeLine 37 = .ok (.goto 46, 3) := by decide +kernel
theorem dX0_writeLine_40 : decode cX0_writeLine 40 = .ok (.aload_n 1, 1) := by decide +kernel
theorem dX0_writeLine_41 : decode cX0_writeLine 41 = .ok (.ldc 105, 2) := by decide +kernel
theorem dX0_writeLine_43 : decode cX0_writeLine 43 = .ok (.invokevirtual 93, 3) := by decide +kernel
theorem dX0_writeLine_46 : decode cX0_writeLine 46 = .ok (.ifCond .eq 11, 3) := by decide +kernel
theorem dX0_writeLine_49 : decode cX0_writeLine 49 = .ok (.aload_n 0, 1) := by decide +kernel
theorem dX0_writeLine_50 : decode cX0_writeLine 50 = .ok (.aload_n 1, 1) := by decide +kernel
theorem dX0_writeLine_51 : decode cX0_writeLine 51 = .ok (.invokevirtual 107, 3) := by decide +kernel
theorem dX0_writeLine_54 : decode cX0_writeLine 54 = .ok (.goto 29, 3) := by decide +kernel
theorem dX0_writeLine_57 : decode cX0_writeLine 57 = .ok (.aload_n 1, 1) := by decide +kernel
theorem dX0_writeLine_58 : decode cX0_writeLine 58 = .ok (.ldc 110, 2) := by decide +kernel
theorem dX0_writeLine_60 : decode cX0_writeLine 60 = .ok (.invokevirtual 93, 3) := by decide +kernel
theorem dX0_writeLine_63 : decode cX0_writeLine 63 = .ok (.ifCond .eq 11, 3) := by decide +kernel
theorem dX0_writeLine_66 : decode cX0_writeLine 66 = .ok (.aload_n 0, 1) := by decide +kernel
theorem dX0_writeLine_67 : decode cX0_writeLine 67 = .ok (.aload_n 1, 1) := by decide +kernel
theorem dX0_writeLine_68 : decode cX0_writeLine 68 = .ok (.invokevirtual 112, 3) := by decide +kernel
theorem dX0_writeLine_71 : decode cX0_writeLine 71 = .ok (.goto 12, 3) := by decide +kernel
theorem dX0_writeLine_74 : decode cX0_writeLine 74 = .ok (.aload_n 1, 1) := by decide +kernel
theorem dX0_writeLine_75 : decode cX0_writeLine 75 = .ok (.iconst 1, 1) := by decide +kernel
theorem dX0_writeLine_76 : decode cX0_writeLine 76 = .ok (.aload_n 1, 1) := by decide +kernel
theorem dX0_writeLine_77 : decode cX0_writeLine 77 = .ok (.getfield 115, 3) := by decide +kernel
theorem dX0_writeLine_80 : decode cX0_writeLine 80 = .ok (.invokevirtual 118, 3) := by decide +kernel
theorem dX0_writeLine_83 : decode cX0_writeLine 83 = .ok (.return_, 1) := by decide +kernel
theorem dX0_writeText_0 : decode cX0_writeText 0 = .ok (.aload_n 1, 1) := by decide +kernel
theorem dX0_writeText_1 : decode cX0_writeText 1 = .ok (.iconst 0, 1) := by decide +kernel
theorem dX0_writeText_2 : decode cX0_writeText 2 = .ok (.bipush 11, 2) := by decide +kernel
theorem dX0_writeText_4 : decode cX0_writeText 4 = .ok (.invokevirtual 101, 3) := by decide +kernel
theorem dX0_writeText_7 : decode cX0_writeText 7 = .ok (.istore_n 2, 1) := by decide +kernel
theorem dX0_writeText_8 : decode cX0_writeText 8 = .ok (.aload_n 1, 1) := by decide +kernel
theorem dX0_writeText_9 : decode cX0_writeText 9 = .ok (.iconst 1, 1) := by decide +kernel
theorem dX0_writeText_10 : decode cX0_writeText 10 = .ok (.bipush 20, 2) := by decide +kernel
theorem dX0_writeText_12 : decode cX0_writeText 12 = .ok (.invokevirtual 101, 3) := by decide +kernel
theorem dX0_writeText_15 : decode cX0_writeText 15 = .ok (.istore_n 3, 1) := by decide +kernel
theorem dX0_writeText_16 : decode cX0_writeText 16 = .ok (.aload_n 0, 1) := by decide +kernel
theorem dX0_writeText_17 : decode cX0_writeText 17 = .ok (.getfield 71, 3) := by decide +kernel
theorem dX0_writeText_20 : decode cX0_writeText 20 = .ok (.iload_n 3, 1) := by decide +kernel
theorem dX0_writeText_21 : decode cX0_writeText 21 = .ok (.iadd, 1) := by decide +kernel
theorem dX0_writeText_22 : decode cX0_writeText 22 = .ok (.bipush 40, 2) := by decide +kernel
theorem dX0_writeText_24 : decode cX0_writeText 24 = .ok (.if_icmp .le 12, 3) := by decide +kernel
theorem dX0_writeText_27 : decode cX0_writeText 27 = .ok (.aload_n 1, 1) := by decide +kernel
theorem dX0_writeText_28 : decode cX0_writeText 28 = .ok (.iconst 2, 1) := by decide +kernel
theorem dX0_writeText_29 : decode cX0_writeText 29 = .ok (.aload_n 1, 1) := by decide +kernel
theorem dX0_writeText_30 : decode cX0_writeText 30 = .ok (.getfield 122, 3) := by decide +kernel
theorem dX0_writeText_33 : decode cX0_writeText 33 = .ok (.invokevirtual 118, 3) := by decide +kernel
theorem dX0_writeText_36 : decode cX0_writeText 36 = .ok (.aload_n 1, 1) := by decide +kernel
theorem dX0_writeText_37 : decode cX0_writeText 37 = .ok (.ldc 125, 2) := by decide +kernel
theorem dX0_writeText_39 : decode cX0_writeText 39 = .ok (.invokevirtual 93, 3) := by decide +kernel
theorem dX0_writeText_42 : decode cX0_writeText 42 = .ok (.ifCond .eq 14, 3) := by decide +kernel
theorem dX0_writeText_45 : decode cX0_writeText 45 = .ok (.aload_n 1, 1) := by decide +kernel
theorem dX0_writeText_46 : decode cX0_writeText 46 = .ok (.iconst 0, 1) := by decide +kernel
theorem dX0_writeText_47 : decode cX0_writeText 47 = .ok (.sipush 200, 3) := by decide +kernel
theorem dX0_writeText_50 : decode cX0_writeText 50 = .ok (.invokevirtual 101, 3) := by decide +kernel
theorem dX0_writeText_53 : decode cX0_writeText 53 = .ok (.goto 5, 3) := by decide +kernel
theorem dX0_writeText_56 : decode cX0_writeText 56 = .ok (.bipush 40, 2) := by decide +kernel
theorem dX0_writeText_58 : decode cX0_writeText 58 = .ok (.istore 4, 2) := by decide +kernel
theorem dX0_writeText_60 : decode cX0_writeText 60 = .ok (.aload_n 1, 1) := by decide +kernel
theorem dX0_writeText_61 : decode cX0_writeText 61 = .ok (.ldc 127, 2) := by decide +kernel
theorem dX0_writeText_63 : decode cX0_writeText 63 = .ok (.invokevirtual 93, 3) := by decide +kernel
theorem dX0_writeText_66 : decode cX0_writeText 66 = .ok (.ifCond .eq 14, 3) := by decide +kernel
theorem dX0_writeText_69 : decode cX0_writeText 69 = .ok (.aload_n 1, 1) := by decide +kernel
theorem dX0_writeText_70 : decode cX0_writeText 70 = .ok (.iconst 0, 1) := by decide +kernel
theorem dX0_writeText_71 : decode cX0_writeText 71 = .ok (.sipush 500, 3) := by decide +kernel
theorem dX0_writeText_74 : decode cX0_writeText 74 = .ok (.invokevirtual 101, 3) := by decide +kernel
theorem dX0_writeText_77 : decode cX0_writeText 77 = .ok (.goto 4, 3) := by decide +kernel
theorem dX0_writeText_80 : decode cX0_writeText 80 = .ok (.iconst 0, 1) := by decide +kernel
theorem dX0_writeText_81 : decode cX0_writeText 81 = .ok (.istore 5, 2) := by decide +kernel
theorem dX0_writeText_83 : decode cX0_writeText 83 = .ok (.aload_n 1, 1) := by decide +kernel
theorem dX0_writeText_84 : decode cX0_writeText 84 = .ok (.getfield 129, 3) := by decide +kernel
theorem dX0_writeText_87 : decode cX0_writeText 87 = .ok (.ifCond .eq 4, 3) := by decide +kernel
theorem dX0_writeText_90 : decode cX0_writeText 90 = .ok (.return_, 1) := by decide +kernel
theorem dX0_writeText_91 : decode cX0_writeText 91 = .ok (.iconst 0, 1) := by decide +kernel
theorem dX0_writeText_92 : decode cX0_writeText 92 = .ok (.istore 6, 2) := by decide +kernel
theorem dX0_writeText_94 : decode cX0_writeText 94 = .ok (.iload 6, 2) := by decide +kernel
theorem dX0_writeText_96 : decode cX0_writeText 96 = .ok (.iload_n 3, 1) := by decide +kernel
theorem dX0_writeText_97 : decode cX0_writeText 97 = .ok (.if_icmp .ge 94, 3) := by decide +kernel
theorem dX0_writeText_100 : decode cX0_writeText 100 = .ok (.aload_n 0, 1) := by decide +kernel
theorem dX0_writeText_101 : decode cX0_writeText 101 = .ok (.getfield 71, 3) := by decide +kernel
theorem dX0_writeText_104 : decode cX0_writeText 104 = .ok (.bipush 40, 2) := by decide +kernel
theorem dX0_writeText_106 : decode cX0_writeText 106 = .ok (.if_icmp .ge 85, 3) := by decide +kernel
theorem dX0_writeText_109 : decode cX0_writeText 109 = .ok (.aload_n 0, 1) := by decide +kernel
theorem dX0_writeText_110 : decode cX0_writeText 110 = .ok (.getfield 9, 3) := by decide +kernel
theorem dX0_writeText_113 : decode cX0_writeText 113 = .ok (.aload_n 0, 1) := by decide +kernel
theorem dX0_writeText_114 : decode cX0_writeText 114 = .ok (.getfield 71, 3) := by decide +kernel
theorem dX0_writeText_117 : decode cX0_writeText 117 = .ok (.iload_n 2, 1) := by decide +kernel
theorem dX0_writeText_118 : decode cX0_writeText 118 = .ok (.iastore, 1) := by decide +kernel
theorem dX0_writeText_119 : decode cX0_writeText 119 = .ok (.aload_n 0, 1) := by decide +kernel
theorem dX0_writeText_120 : decode cX0_writeText 120 = .ok (.getfield 15, 3) := by decide +kernel
theorem dX0_writeText_123 : decode cX0_writeText 123 = .ok (.aload_n 0, 1) := by decide +kernel
theorem dX0_writeText_124 : decode cX0_writeText 124 = .ok (.getfield 71, 3) := by decide +kernel
theorem dX0_writeText_127 : decode cX0_writeText 127 = .ok (.aload_n 0, 1) := by decide +kernel
theorem dX0_writeText_128 : decode cX0_writeText 128 = .ok (.getfield 75, 3) := by decide +kernel
theorem dX0_writeText_131 : decode cX0_writeText 131 = .ok (.iastore, 1) := by decide +kernel
theorem dX0_writeText_132 : decode cX0_writeText 132 = .ok (.aload_n 0, 1) := by decide +kernel
theorem dX0_writeText_133 : decode cX0_writeText 133 = .ok (.getfield 18, 3) := by decide +kernel
theorem dX0_writeText_136 : decode cX0_writeText 136 = .ok (.aload_n 0, 1) := by decide +kernel
theorem dX0_writeText_137 : decode cX0_writeText 137 = .ok (.getfield 71, 3) := by decide +kernel
theorem dX0_writeText_140 : decode cX0_writeText 140 = .ok (.iload 6, 2) := by decide +kernel
theorem dX0_writeText_142 : decode cX0_writeText 142 = .ok (.iastore, 1) := by decide +kernel
theorem dX0_writeText_143 : decode cX0_writeText 143 = .ok (.aload_n 0, 1) := by decide +kernel
theorem dX0_writeText_144 : decode cX0_writeText 144 = .ok (.getfield 21, 3) := by decide +kernel
theorem dX0_writeText_147 : decode cX0_writeText 147 = .ok (.aload_n 0, 1) := by decide +kernel
theorem dX0_writeText_148 : decode cX0_writeText 148 = .ok (.getfield 71, 3) := by decide +kernel
theorem dX0_writeText_151 : decode cX0_writeText 151 = .ok (.iload 4, 2) := by decide +kernel
theorem dX0_writeText_153 : decode cX0_writeText 153 = .ok (.iastore, 1) := by decide +kernel
theorem dX0_writeText_154 : decode cX0_writeText 154 = .ok (.aload_n 0, 1) := by decide +kernel
theorem dX0_writeText_155 : decode cX0_writeText 155 = .ok (.getfield 24, 3) := by decide +kernel
theorem dX0_writeText_158 : decode cX0_writeText 158 = .ok (.aload_n 0, 1) := by decide +kernel
theorem dX0_writeText_159 : decode cX0_writeText 159 = .ok (.getfield 71, 3) := by decide +kernel
theorem dX0_writeText_162 : decode cX0_writeText 162 = .ok (.iload 5, 2) := by decide +kernel
theorem dX0_writeText_164 : decode cX0_writeText 164 = .ok (.iastore, 1) := by decide +kernel
theorem dX0_writeText_165 : decode cX0_writeText 165 = .ok (.aload_n 0, 1) := by decide +kernel
theorem dX0_writeText_166 : decode cX0_writeText 166 = .ok (.getfield 27, 3) := by decide +kernel
theorem dX0_writeText_169 : decode cX0_writeText 169 = .ok (.aload_n 0, 1) := by decide +kernel
theorem dX0_writeText_170 : decode cX0_writeText 170 = .ok (.getfield 71, 3) := by decide +kernel
theorem dX0_writeText_173 : decode cX0_writeText 173 = .ok (.iconst 0, 1) := by decide +kernel
theorem dX0_writeText_174 : decode cX0_writeText 174 = .ok (.iastore, 1) := by decide +kernel
theorem dX0_writeText_175 : decode cX0_writeText 175 = .ok (.aload_n 0, 1) := by decide +kernel
theorem dX0_writeText_176 : decode cX0_writeText 176 = .ok (.dup, 1) := by decide +kernel
theorem dX0_writeText_177 : decode cX0_writeText 177 = .ok (.getfield 71, 3) := by decide +kernel
theorem dX0_writeText_180 : decode cX0_writeText 180 = .ok (.iconst 1, 1) := by decide +kernel
theorem dX0_writeText_181 : decode cX0_writeText 181 = .ok (.iadd, 1) := by decide +kernel
theorem dX0_writeText_182 : decode cX0_writeText 182 = .ok (.putfield 71, 3) := by decide +kernel
theorem dX0_writeText_185 : decode cX0_writeText 185 = .ok (.iinc 6 1, 3) := by decide +kernel
theorem dX0_writeText_188 : decode cX0_writeText 188 = .ok (.goto (-94), 3) := by decide +kernel
theorem dX0_writeText_191 : decode cX0_writeText 191 = .ok (.aload_n 0, 1) := by decide +kernel
theorem dX0_writeText_192 : decode cX0_writeText 192 = .ok (.dup, 1) := by decide +kernel
theorem dX0_writeText_193 : decode cX0_writeText 193 = .ok (.getfield 75, 3) := by decide +kernel
theorem dX0_writeText_196 : decode cX0_writeText 196 = .ok (.iconst 1, 1) := by decide +kernel
theorem dX0_writeText_197 : decode cX0_writeText 197 = .ok (.iadd, 1) := by decide +kernel
theorem dX0_writeText_198 : decode cX0_writeText 198 = .ok (.putfield 75, 3) := by decide +kernel
theorem dX0_writeText_201 : decode cX0_writeText 201 = .ok (.aload_n 0, 1) := by decide +kernel
theorem dX0_writeText_202 : decode cX0_writeText 202 = .ok (.dup, 1) := by decide +kernel
theorem dX0_writeText_203 : decode cX0_writeText 203 = .ok (.getfield 78, 3) := by decide +kernel
theorem dX0_writeText_206 : decode cX0_writeText 206 = .ok (.iconst 1, 1) := by decide +kernel
theorem dX0_writeText_207 : decode cX0_writeText 207 = .ok (.iload_n 2, 1) := by decide +kernel
theorem dX0_writeText_208 : decode cX0_writeText 208 = .ok (.ishl, 1) := by decide +kernel
theorem dX0_writeText_209 : decode cX0_writeText 209 = .ok (.ior, 1) := by decide +kernel
theorem dX0_writeText_210 : decode cX0_writeText 210 = .ok (.putfield 78, 3) := by decide +kernel
theorem dX0_writeText_213 : decode cX0_writeText 213 = .ok (.return_, 1) := by decide +kernel
theorem dX0_writeSpilt_0 : decode cX0_writeSpilt 0 = .ok (.aload_n 1, 1) := by decide +kernel
theorem dX0_writeSpilt_1 : decode cX0_writeSpilt 1 = .ok (.iconst 0, 1) := by decide +kernel
theorem dX0_writeSpilt_2 : decode cX0_writeSpilt 2 = .ok (.sipush 9999, 3) := by decide +kernel
theorem dX0_writeSpilt_5 : decode cX0_writeSpilt 5 = .ok (.invokevirtual 101, 3) := by decide +kernel
theorem dX0_writeSpilt_8 : decode cX0_writeSpilt 8 = .ok (.istore_n 2, 1) := by decide +kernel
theorem dX0_writeSpilt_9 : decode cX0_writeSpilt 9 = .ok (.iload_n 2, 1) := by decide +kernel
theorem dX0_writeSpilt_10 : decode cX0_writeSpilt 10 = .ok (.aload_n 0, 1) := by decide +kernel
theorem dX0_writeSpilt_11 : decode cX0_writeSpilt 11 = .ok (.getfield 71, 3) := by decide +kernel
theorem dX0_writeSpilt_14 : decode cX0_writeSpilt 14 = .ok (.if_icmp .lt 15, 3) := by decide +kernel
theorem dX0_writeSpilt_17 : decode cX0_writeSpilt 17 = .ok (.aload_n 1, 1) := by decide +kernel
theorem dX0_writeSpilt_18 : decode cX0_writeSpilt 18 = .ok (.iconst 3, 1) := by decide +kernel
theorem dX0_writeSpilt_19 : decode cX0_writeSpilt 19 = .ok (.aload_n 1, 1) := by decide +kernel
theorem dX0_writeSpilt_20 : decode cX0_writeSpilt 20 = .ok (.getfield 122, 3) := by decide +kernel
theorem dX0_writeSpilt_23 : decode cX0_writeSpilt 23 = .ok (.invokevirtual 118, 3) := by decide +kernel
theorem dX0_writeSpilt_26 : decode cX0_writeSpilt 26 = .ok (.goto 21, 3) := by decide +kernel
theorem dX0_writeSpilt_29 : decode cX0_writeSpilt 29 = .ok (.aload_n 0, 1) := by decide +kernel
theorem dX0_writeSpilt_30 : decode cX0_writeSpilt 30 = .ok (.getfield 27, 3) := by decide +kernel
theorem dX0_writeSpilt_33 : decode cX0_writeSpilt 33 = .ok (.iload_n 2, 1) := by decide +kernel
theorem dX0_writeSpilt_34 : decode cX0_writeSpilt 34 = .ok (.iaload, 1) := by decide +kernel
theorem dX0_writeSpilt_35 : decode cX0_writeSpilt 35 = .ok (.ifCond .le 12, 3) := by decide +kernel
theorem dX0_writeSpilt_38 : decode cX0_writeSpilt 38 = .ok (.aload_n 1, 1) := by decide +kernel
theorem dX0_writeSpilt_39 : decode cX0_writeSpilt 39 = .ok (.iconst 5, 1) := by decide +kernel
theorem dX0_writeSpilt_40 : decode cX0_writeSpilt 40 = .ok (.aload_n 1, 1) := by decide +kernel
theorem dX0_writeSpilt_41 : decode cX0_writeSpilt 41 = .ok (.getfield 122, 3) := by decide +kernel
theorem dX0_writeSpilt_44 : decode cX0_writeSpilt 44 = .ok (.invokevirtual 118, 3) := by decide +kernel
theorem dX0_writeSpilt_47 : decode cX0_writeSpilt 47 = .ok (.aload_n 1, 1) := by decide +kernel
theorem dX0_writeSpilt_48 : decode cX0_writeSpilt 48 = .ok (.iconst 1, 1) := by decide +kernel
theorem dX0_writeSpilt_49 : decode cX0_writeSpilt 49 = .ok (.sipush 999, 3) := by decide +kernel
theorem dX0_writeSpilt_52 : decode cX0_writeSpilt 52 = .ok (.invokevirtual 101, 3) := by decide +kernel
theorem dX0_writeSpilt_55 : decode cX0_writeSpilt 55 = .ok (.istore_n 3, 1) := by decide +kernel
theorem dX0_writeSpilt_56 : decode cX0_writeSpilt 56 = .ok (.aload_n 1, 1) := by decide +kernel
theorem dX0_writeSpilt_57 : decode cX0_writeSpilt 57 = .ok (.getfield 129, 3) := by decide +kernel
theorem dX0_writeSpilt_60 : decode cX0_writeSpilt 60 = .ok (.ifCond .ne 18, 3) := by decide +kernel
theorem dX0_writeSpilt_63 : decode cX0_writeSpilt 63 = .ok (.iload_n 2, 1) := by decide +kernel
theorem dX0_writeSpilt_64 : decode cX0_writeSpilt 64 = .ok (.aload_n 0, 1) := by decide +kernel
theorem dX0_writeSpilt_65 : decode cX0_writeSpilt 65 = .ok (.getfield 71, 3) := by decide +kernel
theorem dX0_writeSpilt_68 : decode cX0_writeSpilt 68 = .ok (.if_icmp .ge 10, 3) := by decide +kernel
theorem dX0_writeSpilt_71 : decode cX0_writeSpilt 71 = .ok (.aload_n 0, 1) := by decide +kernel
theorem dX0_writeSpilt_72 : decode cX0_writeSpilt 72 = .ok (.getfield 27, 3) := by decide +kernel
theorem dX0_writeSpilt_75 : decode cX0_writeSpilt 75 = .ok (.iload_n 2, 1) := by decide +kernel
theorem dX0_writeSpilt_76 : decode cX0_writeSpilt 76 = .ok (.iload_n 3, 1) := by decide +kernel
theorem dX0_writeSpilt_77 : decode cX0_writeSpilt 77 = .ok (.iastore, 1) := by decide +kernel
theorem dX0_writeSpilt_78 : decode cX0_writeSpilt 78 = .ok (.return_, 1) := by decide +kernel
theorem dX0_writeWashed_0 : decode cX0_writeWashed 0 = .ok (.aload_n 0, 1) := by decide +kernel
theorem dX0_writeWashed_1 : decode cX0_writeWashed 1 = .ok (.getfield 84, 3) := by decide +kernel
theorem dX0_writeWashed_4 : decode cX0_writeWashed 4 = .ok (.iconst 4, 1) := by decide +kernel
theorem dX0_writeWashed_5 : decode cX0_writeWashed 5 = .ok (.if_icmp .lt 12, 3) := by decide +kernel
theorem dX0_writeWashed_8 : decode cX0_writeWashed 8 = .ok (.aload_n 1, 1) := by decide +kernel
theorem dX0_writeWashed_9 : decode cX0_writeWashed 9 = .ok (.iconst 2, 1) := by decide +kernel
theorem dX0_writeWashed_10 : decode cX0_writeWashed 10 = .ok (.aload_n 1, 1) := by decide +kernel
theorem dX0_writeWashed_11 : decode cX0_writeWashed 11 = .ok (.getfield 122, 3) := by decide +kernel
theorem dX0_writeWashed_14 : decode cX0_writeWashed 14 = .ok (.invokevirtual 118, 3) := by decide +kernel
theorem dX0_writeWashed_17 : decode cX0_writeWashed 17 = .ok (.aload_n 1, 1) := by decide +kernel
theorem dX0_writeWashed_18 : decode cX0_writeWashed 18 = .ok (.iconst 0, 1) := by decide +kernel
theorem dX0_writeWashed_19 : decode cX0_writeWashed 19 = .ok (.sipush 500, 3) := by decide +kernel
theorem dX0_writeWashed_22 : decode cX0_writeWashed 22 = .ok (.invokevirtual 101, 3) := by decide +kernel
theorem dX0_writeWashed_25 : decode cX0_writeWashed 25 = .ok (.istore_n 2, 1) := by decide +kernel
theorem dX0_writeWashed_26 : decode cX0_writeWashed 26 = .ok (.aload_n 0, 1) := by decide +kernel
theorem dX0_writeWashed_27 : decode cX0_writeWashed 27 = .ok (.getfield 84, 3) := by decide +kernel
theorem dX0_writeWashed_30 : decode cX0_writeWashed 30 = .ok (.ifCond .le 27, 3) := by decide +kernel
theorem dX0_writeWashed_33 : decode cX0_writeWashed 33 = .ok (.iload_n 2, 1) := by decide +kernel
theorem dX0_writeWashed_34 : decode cX0_writeWashed 34 = .ok (.aload_n 0, 1) := by decide +kernel
theorem dX0_writeWashed_35 : decode cX0_writeWashed 35 = .ok (.getfield 40, 3) := by decide +kernel
theorem dX0_writeWashed_38 : decode cX0_writeWashed 38 = .ok (.aload_n 0, 1) := by decide +kernel
theorem dX0_writeWashed_39 : decode cX0_writeWashed 39 = .ok (.getfield 84, 3) := by decide +kernel
theorem dX0_writeWashed_42 : decode cX0_writeWashed 42 = .ok (.iconst 1, 1) := by decide +kernel
theorem dX0_writeWashed_43 : decode cX0_writeWashed 43 = .ok (.isub, 1) := by decide +kernel
theorem dX0_writeWashed_44 : decode cX0_writeWashed 44 = .ok (.iaload, 1) := by decide +kernel
theorem dX0_writeWashed_45 : decode cX0_writeWashed 45 = .ok (.if_icmp .gt 12, 3) := by decide +kernel
theorem dX0_writeWashed_48 : decode cX0_writeWashed 48 = .ok (.aload_n 1, 1) := by decide +kernel
theorem dX0_writeWashed_49 : decode cX0_writeWashed 49 = .ok (.iconst 4, 1) := by decide +kernel
theorem dX0_writeWashed_50 : decode cX0_writeWashed 50 = .ok (.aload_n 1, 1) := by decide +kernel
theorem dX0_writeWashed_51 : decode cX0_writeWashed 51 = .ok (.getfield 122, 3) := by decide +kernel
theorem dX0_writeWashed_54 : decode cX0_writeWashed 54 = .ok (.invokevirtual 118, 3) := by decide +kernel
theorem dX0_writeWashed_57 : decode cX0_writeWashed 57 = .ok (.aload_n 1, 1) := by decide +kernel
theorem dX0_writeWashed_58 : decode cX0_writeWashed 58 = .ok (.iconst 1, 1) := by decide +kernel
theorem dX0_writeWashed_59 : decode cX0_writeWashed 59 = .ok (.bipush 99, 2) := by decide +kernel
theorem dX0_writeWashed_61 : decode cX0_writeWashed 61 = .ok (.invokevirtual 101, 3) := by decide +kernel
theorem dX0_writeWashed_64 : decode cX0_writeWashed 64 = .ok (.istore_n 3, 1) := by decide +kernel
theorem dX0_writeWashed_65 : decode cX0_writeWashed 65 = .ok (.aload_n 1, 1) := by decide +kernel
theorem dX0_writeWashed_66 : decode cX0_writeWashed 66 = .ok (.getfield 129, 3) := by decide +kernel
theorem dX0_writeWashed_69 : decode cX0_writeWashed 69 = .ok (.ifCond .ne 41, 3) := by decide +kernel
theorem dX0_writeWashed_72 : decode cX0_writeWashed 72 = .ok (.aload_n 0, 1) := by decide +kernel
theorem dX0_writeWashed_73 : decode cX0_writeWashed 73 = .ok (.getfield 84, 3) := by decide +kernel
theorem dX0_writeWashed_76 : decode cX0_writeWashed 76 = .ok (.iconst 4, 1) := by decide +kernel
theorem dX0_writeWashed_77 : decode cX0_writeWashed 77 = .ok (.if_icmp .ge 33, 3) := by decide +kernel
theorem dX0_writeWashed_80 : decode cX0_writeWashed 80 = .ok (.aload_n 0, 1) := by decide +kernel
theorem dX0_writeWashed_81 : decode cX0_writeWashed 81 = .ok (.getfield 40, 3) := by decide +kernel
theorem dX0_writeWashed_84 : decode cX0_writeWashed 84 = .ok (.aload_n 0, 1) := by decide +kernel
theorem dX0_writeWashed_85 : decode cX0_writeWashed 85 = .ok (.getfield 84, 3) := by decide +kernel
theorem dX0_writeWashed_88 : decode cX0_writeWashed 88 = .ok (.iload_n 2, 1) := by decide +kernel
theorem dX0_writeWashed_89 : decode cX0_writeWashed 89 = .ok (.iastore, 1) := by decide +kernel
theorem dX0_writeWashed_90 : decode cX0_writeWashed 90 = .ok (.aload_n 0, 1) := by decide +kernel
theorem dX0_writeWashed_91 : decode cX0_writeWashed 91 = .ok (.getfield 43, 3) := by decide +kernel
theorem dX0_writeWashed_94 : decode cX0_writeWashed 94 = .ok (.aload_n 0, 1) := by decide +kernel
theorem dX0_writeWashed_95 : decode cX0_writeWashed 95 = .ok (.getfield 84, 3) := by decide +kernel
theorem dX0_writeWashed_98 : decode cX0_writeWashed 98 = .ok (.iload_n 3, 1) := by decide +kernel
theorem dX0_writeWashed_99 : decode cX0_writeWashed 99 = .ok (.iastore, 1) := by decide +kernel
theorem dX0_writeWashed_100 : decode cX0_writeWashed 100 = .ok (.aload_n 0, 1) := by decide +kernel
theorem dX0_writeWashed_101 : decode cX0_writeWashed 101 = .ok (.dup, 1) := by decide +kernel
theorem dX0_writeWashed_102 : decode cX0_writeWashed 102 = .ok (.getfield 84, 3) := by decide +kernel
theorem dX0_writeWashed_105 : decode cX0_writeWashed 105 = .ok (.iconst 1, 1) := by decide +kernel
theorem dX0_writeWashed_106 : decode cX0_writeWashed 106 = .ok (.iadd, 1) := by decide +kernel
theorem dX0_writeWashed_107 : decode cX0_writeWashed 107 = .ok (.putfield 84, 3) := by decide +kernel
theorem dX0_writeWashed_110 : decode cX0_writeWashed 110 = .ok (.return_, 1) := by decide +kernel
theorem dX0_addReader_0 : decode cX0_addReader 0 = .ok (.aload_n 0, 1) := by decide +kernel
theorem dX0_addReader_1 : decode cX0_addReader 1 = .ok (.getfield 87, 3) := by decide +kernel
theorem dX0_addReader_4 : decode cX0_addReader 4 = .ok (.bipush 8, 2) := by decide +kernel
theorem dX0_addReader_6 : decode cX0_addReader 6 = .ok (.if_icmp .ge 43, 3) := by decide +kernel
theorem dX0_addReader_9 : decode cX0_addReader 9 = .ok (.aload_n 0, 1) := by decide +kernel
theorem dX0_addReader_10 : decode cX0_addReader 10 = .ok (.getfield 46, 3) := by decide +kernel
theorem dX0_addReader_13 : decode cX0_addReader 13 = .ok (.aload_n 0, 1) := by decide +kernel
theorem dX0_addReader_14 : decode cX0_addReader 14 = .ok (.getfield 87, 3) := by decide +kernel
theorem dX0_addReader_17 : decode cX0_addReader 17 = .ok (.iload_n 1, 1) := by decide +kernel
theorem dX0_addReader_18 : decode cX0_addReader 18 = .ok (.iastore, 1) := by decide +kernel
theorem dX0_addReader_19 : decode cX0_addReader 19 = .ok (.aload_n 0, 1) := by decide +kernel
theorem dX0_addReader_20 : decode cX0_addReader 20 = .ok (.getfield 49, 3) := by decide +kernel
theorem dX0_addReader_23 : decode cX0_addReader 23 = .ok (.aload_n 0, 1) := by decide +kernel
theorem dX0_addReader_24 : decode cX0_addReader 24 = .ok (.getfield 87, 3) := by decide +kernel
theorem dX0_addReader_27 : decode cX0_addReader 27 = .ok (.iload_n 2, 1) := by decide +kernel
theorem dX0_addReader_28 : decode cX0_addReader 28 = .ok (.iastore, 1) := by decide +kernel
theorem dX0_addReader_29 : decode cX0_addReader 29 = .ok (.aload_n 0, 1) := by decide +kernel
theorem dX0_addReader_30 : decode cX0_addReader 30 = .ok (.getfield 52, 3) := by decide +kernel
theorem dX0_addReader_33 : decode cX0_addReader 33 = .ok (.aload_n 0, 1) := by decide +kernel
theorem dX0_addReader_34 : decode cX0_addReader 34 = .ok (.getfield 87, 3) := by decide +kernel
theorem dX0_addReader_37 : decode cX0_addReader 37 = .ok (.iload_n 3, 1) := by decide +kernel
theorem dX0_addReader_38 : decode cX0_addReader 38 = .ok (.iastore, 1) := by decide +kernel
theorem dX0_addReader_39 : decode cX0_addReader 39 = .ok (.aload_n 0, 1) := by decide +kernel
theorem dX0_addReader_40 : decode cX0_addReader 40 = .ok (.dup, 1) := by decide +kernel
theorem dX0_addReader_41 : decode cX0_addReader 41 = .ok (.getfield 87, 3) := by decide +kernel
theorem dX0_addReader_44 : decode cX0_addReader 44 = .ok (.iconst 1, 1) := by decide +kernel
theorem dX0_addReader_45 : decode cX0_addReader 45 = .ok (.iadd, 1) := by decide +kernel
theorem dX0_addReader_46 : decode cX0_addReader 46 = .ok (.putfield 87, 3) := by decide +kernel
theorem dX0_addReader_49 : decode cX0_addReader 49 = .ok (.return_, 1) := by decide +kernel
theorem dX0_isKnown_0 : decode cX0_isKnown 0 = .ok (.aload_n 0, 1) := by decide +kernel
theorem dX0_isKnown_1 : decode cX0_isKnown 1 = .ok (.getfield 33, 3) := by decide +kernel
theorem dX0_isKnown_4 : decode cX0_isKnown 4 = .ok (.aload_n 0, 1) := by decide +kernel
theorem dX0_isKnown_5 : decode cX0_isKnown 5 = .ok (.getfield 71, 3) := by decide +kernel
theorem dX0_isKnown_8 : decode cX0_isKnown 8 = .ok (.invokevirtual 132, 3) := by decide +kernel
theorem dX0_isKnown_11 : decode cX0_isKnown 11 = .ok (.ireturn, 1) := by decide +kernel
theorem dX0_bare_0 : decode cX0_bare 0 = .ok (.aload_n 0, 1) := by decide +kernel
theorem dX0_bare_1 : decode cX0_bare 1 = .ok (.getfield 21, 3) := by decide +kernel
theorem dX0_bare_4 : decode cX0_bare 4 = .ok (.iload_n 1, 1) := by decide +kernel
theorem dX0_bare_5 : decode cX0_bare 5 = .ok (.iaload, 1) := by decide +kernel
theorem dX0_bare_6 : decode cX0_bare 6 = .ok (.iload_n 1, 1) := by decide +kernel
theorem dX0_bare_7 : decode cX0_bare 7 = .ok (.iconst 2, 1) := by decide +kernel
theorem dX0_bare_8 : decode cX0_bare 8 = .ok (.irem, 1) := by decide +kernel
theorem dX0_bare_9 : decode cX0_bare 9 = .ok (.iconst 1, 1) := by decide +kernel
theorem dX0_bare_10 : decode cX0_bare 10 = .ok (.if_icmp .ne 10, 3) := by decide +kernel
theorem dX0_bare_13 : decode cX0_bare 13 = .ok (.aload_n 0, 1) := by decide +kernel
theorem dX0_bare_14 : decode cX0_bare 14 = .ok (.getfield 81, 3) := by decide +kernel
theorem dX0_bare_17 : decode cX0_bare 17 = .ok (.goto 4, 3) := by decide +kernel
theorem dX0_bare_20 : decode cX0_bare 20 = .ok (.iconst 0, 1) := by decide +kernel
theorem dX0_bare_21 : decode cX0_bare 21 = .ok (.iadd, 1) := by decide +kernel
theorem dX0_bare_22 : decode cX0_bare 22 = .ok (.ireturn, 1) := by decide +kernel
theorem dX0_turned_0 : decode cX0_turned 0 = .ok (.iload_n 3, 1) := by decide +kernel
theorem dX0_turned_1 : decode cX0_turned 1 = .ok (.aload_n 0, 1) := by decide +kernel
theorem dX0_turned_2 : decode cX0_turned 2 = .ok (.getfield 24, 3) := by decide +kernel
theorem dX0_turned_5 : decode cX0_turned 5 = .ok (.iload_n 2, 1) := by decide +kernel
theorem dX0_turned_6 : decode cX0_turned 6 = .ok (.iaload, 1) := by decide +kernel
theorem dX0_turned_7 : decode cX0_turned 7 = .ok (.invokestatic 136, 3) := by decide +kernel
theorem dX0_turned_10 : decode cX0_turned 10 = .ok (.istore 5, 2) := by decide +kernel
theorem dX0_turned_12 : decode cX0_turned 12 = .ok (.iconst 0, 1) := by decide +kernel
theorem dX0_turned_13 : decode cX0_turned 13 = .ok (.istore 6, 2) := by decide +kernel
theorem dX0_turned_15 : decode cX0_turned 15 = .ok (.iconst 0, 1) := by decide +kernel
theorem dX0_turned_16 : decode cX0_turned 16 = .ok (.istore 7, 2) := by decide +kernel
theorem dX0_turned_18 : decode cX0_turned 18 = .ok (.iload 7, 2) := by decide +kernel
theorem dX0_turned_20 : decode cX0_turned 20 = .ok (.aload_n 0, 1) := by decide +kernel
theorem dX0_turned_21 : decode cX0_turned 21 = .ok (.getfield 87, 3) := by decide +kernel
theorem dX0_turned_24 : decode cX0_turned 24 = .ok (.if_icmp .ge 81, 3) := by decide +kernel
theorem dX0_turned_27 : decode cX0_turned 27 = .ok (.iload 5, 2) := by decide +kernel
theorem dX0_turned_29 : decode cX0_turned 29 = .ok (.aload_n 0, 1) := by decide +kernel
theorem dX0_turned_30 : decode cX0_turned 30 = .ok (.getfield 49, 3) := by decide +kernel
theorem dX0_turned_33 : decode cX0_turned 33 = .ok (.iload 7, 2) := by decide +kernel
theorem dX0_turned_35 : decode cX0_turned 35 = .ok (.iaload, 1) := by decide +kernel
theorem dX0_turned_36 : decode cX0_turned 36 = .ok (.invokestatic 136, 3) := by decide +kernel
theorem dX0_turned_39 : decode cX0_turned 39 = .ok (.istore 8, 2) := by decide +kernel
theorem dX0_turned_41 : decode cX0_turned 41 = .ok (.iload 4, 2) := by decide +kernel
theorem dX0_turned_43 : decode cX0_turned 43 = .ok (.aload_n 0, 1) := by decide +kernel
theorem dX0_turned_44 : decode cX0_turned 44 = .ok (.getfield 52, 3) := by decide +kernel
theorem dX0_turned_47 : decode cX0_turned 47 = .ok (.iload 7, 2) := by decide +kernel
theorem dX0_turned_49 : decode cX0_turned 49 = .ok (.iaload, 1) := by decide +kernel
theorem dX0_turned_50 : decode cX0_turned 50 = .ok (.invokestatic 141, 3) := by decide +kernel
theorem dX0_turned_53 : decode cX0_turned 53 = .ok (.istore 9, 2) := by decide +kernel
theorem dX0_turned_55 : decode cX0_turned 55 = .ok (.iload 8, 2) := by decide +kernel
theorem dX0_turned_57 : decode cX0_turned 57 = .ok (.iload 9, 2) := by decide +kernel
theorem dX0_turned_59 : decode cX0_turned 59 = .ok (.if_icmp .gt 40, 3) := by decide +kernel
theorem dX0_turned_62 : decode cX0_turned 62 = .ok (.iload 6, 2) := by decide +kernel
theorem dX0_turned_64 : decode cX0_turned 64 = .ok (.iload 9, 2) := by decide +kernel
theorem dX0_turned_66 : decode cX0_turned 66 = .ok (.iload 8, 2) := by decide +kernel
theorem dX0_turned_68 : decode cX0_turned 68 = .ok (.isub, 1) := by decide +kernel
theorem dX0_turned_69 : decode cX0_turned 69 = .ok (.iconst 1, 1) := by decide +kernel
theorem dX0_turned_70 : decode cX0_turned 70 = .ok (.iadd, 1) := by decide +kernel
theorem dX0_turned_71 : decode cX0_turned 71 = .ok (.aload_n 1, 1) := by decide +kernel
theorem dX0_turned_72 : decode cX0_turned 72 = .ok (.aload_n 0, 1) := by decide +kernel
theorem dX0_turned_73 : decode cX0_turned 73 = .ok (.getfield 46, 3) := by decide +kernel
theorem dX0_turned_76 : decode cX0_turned 76 = .ok (.iload 7, 2) := by decide +kernel
theorem dX0_turned_78 : decode cX0_turned 78 = .ok (.iaload, 1) := by decide +kernel
theorem dX0_turned_79 : decode cX0_turned 79 = .ok (.aaload, 1) := by decide +kernel
theorem dX0_turned_80 : decode cX0_turned 80 = .ok (.aload_n 0, 1) := by decide +kernel
theorem dX0_turned_81 : decode cX0_turned 81 = .ok (.getfield 9, 3) := by decide +kernel
theorem dX0_turned_84 : decode cX0_turned 84 = .ok (.iload_n 2, 1) := by decide +kernel
theorem dX0_turned_85 : decode cX0_turned 85 = .ok (.iaload, 1) := by decide +kernel
theorem dX0_turned_86 : decode cX0_turned 86 = .ok (.aload_n 0, 1) := by decide +kernel
theorem dX0_turned_87 : decode cX0_turned 87 = .ok (.getfield 18, 3) := by decide +kernel
theorem dX0_turned_90 : decode cX0_turned 90 = .ok (.iload_n 2, 1) := by decide +kernel
theorem dX0_turned_91 : decode cX0_turned 91 = .ok (.iaload, 1) := by decide +kernel
theorem dX0_turned_92 : decode cX0_turned 92 = .ok (.invokevirtual 144, 3) := by decide +kernel
theorem dX0_turned_95 : decode cX0_turned 95 = .ok (.imul, 1) := by decide +kernel
theorem dX0_turned_96 : decode cX0_turned 96 = .ok (.iadd, 1) := by decide +kernel
theorem dX0_turned_97 : decode cX0_turned 97 = .ok (.istore 6, 2) := by decide +kernel
theorem dX0_turned_99 : decode cX0_turned 99 = .ok (.iinc 7 1, 3) := by decide +kernel
theorem dX0_turned_102 : decode cX0_turned 102 = .ok (.goto (-84), 3) := by decide +kernel
theorem dX0_turned_105 : decode cX0_turned 105 = .ok (.iload 6, 2) := by decide +kernel
theorem dX0_turned_107 : decode cX0_turned 107 = .ok (.ireturn, 1) := by decide +kernel
theorem dX0_ownDirt_0 : decode cX0_ownDirt 0 = .ok (.iconst 0, 1) := by decide +kernel
theorem dX0_ownDirt_1 : decode cX0_ownDirt 1 = .ok (.istore 4, 2) := by decide +kernel
theorem dX0_ownDirt_3 : decode cX0_ownDirt 3 = .ok (.iconst 0, 1) := by decide +kernel
theorem dX0_ownDirt_4 : decode cX0_ownDirt 4 = .ok (.istore 5, 2) := by decide +kernel
theorem dX0_ownDirt_6 : decode cX0_ownDirt 6 = .ok (.iconst 0, 1) := by decide +kernel
theorem dX0_ownDirt_7 : decode cX0_ownDirt 7 = .ok (.istore 6, 2) := by decide +kernel
theorem dX0_ownDirt_9 : decode cX0_ownDirt 9 = .ok (.iload 6, 2) := by decide +kernel
theorem dX0_ownDirt_11 : decode cX0_ownDirt 11 = .ok (.aload_n 0, 1) := by decide +kernel
theorem dX0_ownDirt_12 : decode cX0_ownDirt 12 = .ok (.getfield 84, 3) := by decide +kernel
theorem dX0_ownDirt_15 : decode cX0_ownDirt 15 = .ok (.if_icmp .ge 67, 3) := by decide +kernel
theorem dX0_ownDirt_18 : decode cX0_ownDirt 18 = .ok (.iload 4, 2) := by decide +kernel
theorem dX0_ownDirt_20 : decode cX0_ownDirt 20 = .ok (.aload_n 2, 1) := by decide +kernel
theorem dX0_ownDirt_21 : decode cX0_ownDirt 21 = .ok (.getfield 149, 3) := by decide +kernel
theorem dX0_ownDirt_24 : decode cX0_ownDirt 24 = .ok (.aload_n 0, 1) := by decide +kernel
theorem dX0_ownDirt_25 : decode cX0_ownDirt 25 = .ok (.aload_n 1, 1) := by decide +kernel
theorem dX0_ownDirt_26 : decode cX0_ownDirt 26 = .ok (.iload_n 3, 1) := by decide +kernel
theorem dX0_ownDirt_27 : decode cX0_ownDirt 27 = .ok (.iload 5, 2) := by decide +kernel
theorem dX0_ownDirt_29 : decode cX0_ownDirt 29 = .ok (.aload_n 0, 1) := by decide +kernel
theorem dX0_ownDirt_30 : decode cX0_ownDirt 30 = .ok (.getfield 40, 3) := by decide +kernel
theorem dX0_ownDirt_33 : decode cX0_ownDirt 33 = .ok (.iload 6, 2) := by decide +kernel
theorem dX0_ownDirt_35 : decode cX0_ownDirt 35 = .ok (.iaload, 1) := by decide +kernel
theorem dX0_ownDirt_36 : decode cX0_ownDirt 36 = .ok (.invokevirtual 154, 3) := by decide +kernel
theorem dX0_ownDirt_39 : decode cX0_ownDirt 39 = .ok (.imul, 1) := by decide +kernel
theorem dX0_ownDirt_40 : decode cX0_ownDirt 40 = .ok (.iadd, 1) := by decide +kernel
theorem dX0_ownDirt_41 : decode cX0_ownDirt 41 = .ok (.istore 4, 2) := by decide +kernel
theorem dX0_ownDirt_43 : decode cX0_ownDirt 43 = .ok (.iload 4, 2) := by decide +kernel
theorem dX0_ownDirt_45 : decode cX0_ownDirt 45 = .ok (.i2l, 1) := by decide +kernel
theorem dX0_ownDirt_46 : decode cX0_ownDirt 46 = .ok (.bipush 100, 2) := by decide +kernel
theorem dX0_ownDirt_48 : decode cX0_ownDirt 48 = .ok (.aload_n 0, 1) := by decide +kernel
theorem dX0_ownDirt_49 : decode cX0_ownDirt 49 = .ok (.getfield 43, 3) := by decide +kernel
theorem dX0_ownDirt_52 : decode cX0_ownDirt 52 = .ok (.iload 6, 2) := by decide +kernel
theorem dX0_ownDirt_54 : decode cX0_ownDirt 54 = .ok (.iaload, 1) := by decide +kernel
theorem dX0_ownDirt_55 : decode cX0_ownDirt 55 = .ok (.isub, 1) := by decide +kernel
theorem dX0_ownDirt_56 : decode cX0_ownDirt 56 = .ok (.i2l, 1) := by decide +kernel
theorem dX0_ownDirt_57 : decode cX0_ownDirt 57 = .ok (.lmul, 1) := by decide +kernel
theorem dX0_ownDirt_58 : decode cX0_ownDirt 58 = .ok (.ldc2_w 158, 3) := by decide +kernel
theorem dX0_ownDirt_61 : decode cX0_ownDirt 61 = .ok (.ldiv, 1) := by decide +kernel
theorem dX0_ownDirt_62 : decode cX0_ownDirt 62 = .ok (.l2i, 1) := by decide +kernel
theorem dX0_ownDirt_63 : decode cX0_ownDirt 63 = .ok (.istore 4, 2) := by decide +kernel
theorem dX0_ownDirt_65 : decode cX0_ownDirt 65 = .ok (.aload_n 0, 1) := by decide +kernel
theorem dX0_ownDirt_66 : decode cX0_ownDirt 66 = .ok (.getfield 40, 3) := by decide +kernel
theorem dX0_ownDirt_69 : decode cX0_ownDirt 69 = .ok (.iload 6, 2) := by decide +kernel
theorem dX0_ownDirt_71 : decode cX0_ownDirt 71 = .ok (.iaload, 1) := by decide +kernel
theorem dX0_ownDirt_72 : decode cX0_ownDirt 72 = .ok (.iconst 1, 1) := by decide +kernel
theorem dX0_ownDirt_73 : decode cX0_ownDirt 73 = .ok (.iadd, 1) := by decide +kernel
theorem dX0_ownDirt_74 : decode cX0_ownDirt 74 = .ok (.istore 5, 2) := by decide +kernel
theorem dX0_ownDirt_76 : decode cX0_ownDirt 76 = .ok (.iinc 6 1, 3) := by decide +kernel
theorem dX0_ownDirt_79 : decode cX0_ownDirt 79 = .ok (.goto (-70), 3) := by decide +kernel
theorem dX0_ownDirt_82 : decode cX0_ownDirt 82 = .ok (.iload 4, 2) := by decide +kernel
theorem dX0_ownDirt_84 : decode cX0_ownDirt 84 = .ok (.aload_n 2, 1) := by decide +kernel
theorem dX0_ownDirt_85 : decode cX0_ownDirt 85 = .ok (.getfield 149, 3) := by decide +kernel
theorem dX0_ownDirt_88 : decode cX0_ownDirt 88 = .ok (.aload_n 0, 1) := by decide +kernel
theorem dX0_ownDirt_89 : decode cX0_ownDirt 89 = .ok (.aload_n 1, 1) := by decide +kernel
theorem dX0_ownDirt_90 : decode cX0_ownDirt 90 = .ok (.iload_n 3, 1) := by decide +kernel
theorem dX0_ownDirt_91 : decode cX0_ownDirt 91 = .ok (.iload 5, 2) := by decide +kernel
theorem dX0_ownDirt_93 : decode cX0_ownDirt 93 = .ok (.sipush 500, 3) := by decide +kernel
theorem dX0_ownDirt_96 : decode cX0_ownDirt 96 = .ok (.invokevirtual 154, 3) := by decide +kernel
theorem dX0_ownDirt_99 : decode cX0_ownDirt 99 = .ok (.imul, 1) := by decide +kernel
theorem dX0_ownDirt_100 : decode cX0_ownDirt 100 = .ok (.iadd, 1) := by decide +kernel
theorem dX0_ownDirt_101 : decode cX0_ownDirt 101 = .ok (.ireturn, 1) := by decide +kernel
theorem dX0_fillAll_0 : decode cX0_fillAll 0 = .ok (.iconst 0, 1) := by decide +kernel
theorem dX0_fillAll_1 : decode cX0_fillAll 1 = .ok (.istore 4, 2) := by decide +kernel
theorem dX0_fillAll_3 : decode cX0_fillAll 3 = .ok (.iconst 0, 1) := by decide +kernel
theorem dX0_fillAll_4 : decode cX0_fillAll 4 = .ok (.istore 5, 2) := by decide +kernel
theorem dX0_fillAll_6 : decode cX0_fillAll 6 = .ok (.iload 5, 2) := by decide +kernel
theorem dX0_fillAll_8 : decode cX0_fillAll 8 = .ok (.aload_n 0, 1) := by decide +kernel
theorem dX0_fillAll_9 : decode cX0_fillAll 9 = .ok (.getfield 71, 3) := by decide +kernel
theorem dX0_fillAll_12 : decode cX0_fillAll 12 = .ok (.if_icmp .ge 47, 3) := by decide +kernel
theorem dX0_fillAll_15 : decode cX0_fillAll 15 = .ok (.iload 5, 2) := by decide +kernel
theorem dX0_fillAll_17 : decode cX0_fillAll 17 = .ok (.aload_n 1, 1) := by decide +kernel
theorem dX0_fillAll_18 : decode cX0_fillAll 18 = .ok (.arraylength, 1) := by decide +kernel
theorem dX0_fillAll_19 : decode cX0_fillAll 19 = .ok (.if_icmp .ge 40, 3) := by decide +kernel
theorem dX0_fillAll_22 : decode cX0_fillAll 22 = .ok (.aload_n 0, 1) := by decide +kernel
theorem dX0_fillAll_23 : decode cX0_fillAll 23 = .ok (.aload_n 2, 1) := by decide +kernel
theorem dX0_fillAll_24 : decode cX0_fillAll 24 = .ok (.aload_n 3, 1) := by decide +kernel
theorem dX0_fillAll_25 : decode cX0_fillAll 25 = .ok (.iload 5, 2) := by decide +kernel
theorem dX0_fillAll_27 : decode cX0_fillAll 27 = .ok (.invokevirtual 160, 3) := by decide +kernel
theorem dX0_fillAll_30 : decode cX0_fillAll 30 = .ok (.aload_n 0, 1) := by decide +kernel
theorem dX0_fillAll_31 : decode cX0_fillAll 31 = .ok (.getfield 27, 3) := by decide +kernel
theorem dX0_fillAll_34 : decode cX0_fillAll 34 = .ok (.iload 5, 2) := by decide +kernel
theorem dX0_fillAll_36 : decode cX0_fillAll 36 = .ok (.iaload, 1) := by decide +kernel
theorem dX0_fillAll_37 : decode cX0_fillAll 37 = .ok (.iadd, 1) := by decide +kernel
theorem dX0_fillAll_38 : decode cX0_fillAll 38 = .ok (.aload_n 3, 1) := by decide +kernel
theorem dX0_fillAll_39 : decode cX0_fillAll 39 = .ok (.iload 4, 2) := by decide +kernel
theorem dX0_fillAll_41 : decode cX0_fillAll 41 = .ok (.invokevirtual 164, 3) := by decide +kernel
theorem dX0_fillAll_44 : decode cX0_fillAll 44 = .ok (.iadd, 1) := by decide +kernel
theorem dX0_fillAll_45 : decode cX0_fillAll 45 = .ok (.istore 4, 2) := by decide +kernel
theorem dX0_fillAll_47 : decode cX0_fillAll 47 = .ok (.aload_n 1, 1) := by decide +kernel
theorem dX0_fillAll_48 : decode cX0_fillAll 48 = .ok (.iload 5, 2) := by decide +kernel
theorem dX0_fillAll_50 : decode cX0_fillAll 50 = .ok (.iload 4, 2) := by decide +kernel
theorem dX0_fillAll_52 : decode cX0_fillAll 52 = .ok (.iastore, 1) := by decide +kernel
theorem dX0_fillAll_53 : decode cX0_fillAll 53 = .ok (.iinc 5 1, 3) := by decide +kernel
theorem dX0_fillAll_56 : decode cX0_fillAll 56 = .ok (.goto (-50), 3) := by decide +kernel
theorem dX0_fillAll_59 : decode cX0_fillAll 59 = .ok (.return_, 1) := by decide +kernel
theorem dX0_bareLow_0 : decode cX0_bareLow 0 = .ok (.iconst 0, 1) := by decide +kernel
theorem dX0_bareLow_1 : decode cX0_bareLow 1 = .ok (.aload_n 1, 1) := by decide +kernel
theorem dX0_bareLow_2 : decode cX0_bareLow 2 = .ok (.getfield 168, 3) := by decide +kernel
theorem dX0_bareLow_5 : decode cX0_bareLow 5 = .ok (.iload_n 2, 1) := by decide +kernel
theorem dX0_bareLow_6 : decode cX0_bareLow 6 = .ok (.iaload, 1) := by decide +kernel
theorem dX0_bareLow_7 : decode cX0_bareLow 7 = .ok (.aload_n 0, 1) := by decide +kernel
theorem dX0_bareLow_8 : decode cX0_bareLow 8 = .ok (.iload_n 2, 1) := by decide +kernel
theorem dX0_bareLow_9 : decode cX0_bareLow 9 = .ok (.invokevirtual 171, 3) := by decide +kernel
theorem dX0_bareLow_12 : decode cX0_bareLow 12 = .ok (.isub, 1) := by decide +kernel
theorem dX0_bareLow_13 : decode cX0_bareLow 13 = .ok (.invokestatic 136, 3) := by decide +kernel
theorem dX0_bareLow_16 : decode cX0_bareLow 16 = .ok (.ireturn, 1) := by decide +kernel
theorem dX0_bareHigh_0 : decode cX0_bareHigh 0 = .ok (.iconst 0, 1) := by decide +kernel
theorem dX0_bareHigh_1 : decode cX0_bareHigh 1 = .ok (.aload_n 1, 1) := by decide +kernel
theorem dX0_bareHigh_2 : decode cX0_bareHigh 2 = .ok (.getfield 174, 3) := by decide +kernel
theorem dX0_bareHigh_5 : decode cX0_bareHigh 5 = .ok (.iload_n 2, 1) := by decide +kernel
theorem dX0_bareHigh_6 : decode cX0_bareHigh 6 = .ok (.iaload, 1) := by decide +kernel
theorem dX0_bareHigh_7 : decode cX0_bareHigh 7 = .ok (.aload_n 0, 1) := by decide +kernel
theorem dX0_bareHigh_8 : decode cX0_bareHigh 8 = .ok (.iload_n 2, 1) := by decide +kernel
theorem dX0_bareHigh_9 : decode cX0_bareHigh 9 = .ok (.invokevirtual 171, 3) := by decide +kernel
theorem dX0_bareHigh_12 : decode cX0_bareHigh 12 = .ok (.isub, 1) := by decide +kernel
theorem dX0_bareHigh_13 : decode cX0_bareHigh 13 = .ok (.invokestatic 136, 3) := by decide +kernel
theorem dX0_bareHigh_16 : decode cX0_bareHigh 16 = .ok (.ireturn, 1) := by decide +kernel
theorem dX1_init_0 : decode cX1_init 0 = .ok (.aload_n 0, 1) := by decide +kernel
theorem dX1_init_1 : decode cX1_init 1 = .ok (.invokespecial 1, 3) := by decide +kernel
theorem dX1_init_4 : decode cX1_init 4 = .ok (.aload_n 0, 1) := by decide +kernel
theorem dX1_init_5 : decode cX1_init 5 = .ok (.sipush 381, 3) := by decide +kernel
theorem dX1_init_8 : decode cX1_init 8 = .ok (.newarray .int, 2) := by decide +kernel
theorem dX1_init_10 : decode cX1_init 10 = .ok (.putfield 9, 3) := by decide +kernel
theorem dX1_init_13 : decode cX1_init 13 = .ok (.aload_n 0, 1) := by decide +kernel
theorem dX1_init_14 : decode cX1_init 14 = .ok (.sipush 381, 3) := by decide +kernel
theorem dX1_init_17 : decode cX1_init 17 = .ok (.newarray .int, 2) := by decide +kernel
theorem dX1_init_19 : decode cX1_init 19 = .ok (.putfield 13, 3) := by decide +kernel
theorem dX1_init_22 : decode cX1_init 22 = .ok (.return_, 1) := by decide +kernel
theorem dX1_ofAtLeast_0 : decode cX1_ofAtLeast 0 = .ok (.aload_n 0, 1) := by decide +kernel
theorem dX1_ofAtLeast_1 : decode cX1_ofAtLeast 1 = .ok (.getfield 9, 3) := by decide +kernel
theorem dX1_ofAtLeast_4 : decode cX1_ofAtLeast 4 = .ok (.iconst 0, 1) := by decide +kernel
theorem dX1_ofAtLeast_5 : decode cX1_ofAtLeast 5 = .ok (.invokestatic 16, 3) := by decide +kernel
theorem dX1_ofAtLeast_8 : decode cX1_ofAtLeast 8 = .ok (.aload_n 0, 1) := by decide +kernel
theorem dX1_ofAtLeast_9 : decode cX1_ofAtLeast 9 = .ok (.getfield 9, 3) := by decide +kernel
theorem dX1_ofAtLeast_12 : decode cX1_ofAtLeast 12 = .ok (.iconst 0, 1) := by decide +kernel
theorem dX1_ofAtLeast_13 : decode cX1_ofAtLeast 13 = .ok (.ldc 22, 2) := by decide +kernel
theorem dX1_ofAtLeast_15 : decode cX1_ofAtLeast 15 = .ok (.iastore, 1) := by decide +kernel
theorem dX1_ofAtLeast_16 : decode cX1_ofAtLeast 16 = .ok (.iconst 0, 1) := by decide +kernel
theorem dX1_ofAtLeast_17 : decode cX1_ofAtLeast 17 = .ok (.istore_n 3, 1) := by decide +kernel
theorem dX1_ofAtLeast_18 : decode cX1_ofAtLeast 18 = .ok (.iload_n 3, 1) := by decide +kernel
theorem dX1_ofAtLeast_19 : decode cX1_ofAtLeast 19 = .ok (.aload_n 1, 1) := by decide +kernel
theorem dX1_ofAtLeast_20 : decode cX1_ofAtLeast 20 = .ok (.getfield 23, 3) := by decide +kernel
theorem dX1_ofAtLeast_23 : decode cX1_ofAtLeast 23 = .ok (.if_icmp .ge 30, 3) := by decide +kernel
theorem dX1_ofAtLeast_26 : decode cX1_ofAtLeast 26 = .ok (.aload_n 1, 1) := by decide +kernel
theorem dX1_ofAtLeast_27 : decode cX1_ofAtLeast 27 = .ok (.getfield 29, 3) := by decide +kernel
theorem dX1_ofAtLeast_30 : decode cX1_ofAtLeast 30 = .ok (.iload_n 3, 1) := by decide +kernel
theorem dX1_ofAtLeast_31 : decode cX1_ofAtLeast 31 = .ok (.iaload, 1) := by decide +kernel
theorem dX1_ofAtLeast_32 : decode cX1_ofAtLeast 32 = .ok (.ifCond .le 15, 3) := by decide +kernel
theorem dX1_ofAtLeast_35 : decode cX1_ofAtLeast 35 = .ok (.aload_n 0, 1) := by decide +kernel
theorem dX1_ofAtLeast_36 : decode cX1_ofAtLeast 36 = .ok (.aload_n 1, 1) := by decide +kernel
theorem dX1_ofAtLeast_37 : decode cX1_ofAtLeast 37 = .ok (.getfield 29, 3) := by decide +kernel
theorem dX1_ofAtLeast_40 : decode cX1_ofAtLeast 40 = .ok (.iload_n 3, 1) := by decide +kernel
theorem dX1_ofAtLeast_41 : decode cX1_ofAtLeast 41 = .ok (.iaload, 1) := by decide +kernel
theorem dX1_ofAtLeast_42 : decode cX1_ofAtLeast 42 = .ok (.iconst 1, 1) := by decide +kernel
theorem dX1_ofAtLeast_43 : decode cX1_ofAtLeast 43 = .ok (.iadd, 1) := by decide +kernel
theorem dX1_ofAtLeast_44 : decode cX1_ofAtLeast 44 = .ok (.invokevirtual 32, 3) := by decide +kernel
theorem dX1_ofAtLeast_47 : decode cX1_ofAtLeast 47 = .ok (.iinc 3 1, 3) := by decide +kernel
theorem dX1_ofAtLeast_50 : decode cX1_ofAtLeast 50 = .ok (.goto (-32), 3) := by decide +kernel
theorem dX1_ofAtLeast_53 : decode cX1_ofAtLeast 53 = .ok (.iconst 0, 1) := by decide +kernel
theorem dX1_ofAtLeast_54 : decode cX1_ofAtLeast 54 = .ok (.istore_n 3, 1) := by decide +kernel
theorem dX1_ofAtLeast_55 : decode cX1_ofAtLeast 55 = .ok (.iconst 0, 1) := by decide +kernel
theorem dX1_ofAtLeast_56 : decode cX1_ofAtLeast 56 = .ok (.iload_n 2, 1) := by decide +kernel
theorem dX1_ofAtLeast_57 : decode cX1_ofAtLeast 57 = .ok (.invokestatic 36, 3) := by decide +kernel
theorem dX1_ofAtLeast_60 : decode cX1_ofAtLeast 60 = .ok (.istore 4, 2) := by decide +kernel
theorem dX1_ofAtLeast_62 : decode cX1_ofAtLeast 62 = .ok (.iload 4, 2) := by decide +kernel
theorem dX1_ofAtLeast_64 : decode cX1_ofAtLeast 64 = .ok (.sipush 380, 3) := by decide +kernel
theorem dX1_ofAtLeast_67 : decode cX1_ofAtLeast 67 = .ok (.if_icmp .gt 19, 3) := by decide +kernel
theorem dX1_ofAtLeast_70 : decode cX1_ofAtLeast 70 = .ok (.iload_n 3, 1) := by decide +kernel
theorem dX1_ofAtLeast_71 : decode cX1_ofAtLeast 71 = .ok (.aload_n 0, 1) := by decide +kernel
theorem dX1_ofAtLeast_72 : decode cX1_ofAtLeast 72 = .ok (.getfield 9, 3) := by decide +kernel
theorem dX1_ofAtLeast_75 : decode cX1_ofAtLeast 75 = .ok (.iload 4, 2) := by decide +kernel
theorem dX1_ofAtLeast_77 : decode cX1_ofAtLeast 77 = .ok (.iaload, 1) := by decide +kernel
theorem dX1_ofAtLeast_78 : decode cX1_ofAtLeast 78 = .ok (.iadd, 1) := by decide +kernel
theorem dX1_ofAtLeast_79 : decode cX1_ofAtLeast 79 = .ok (.istore_n 3, 1) := by decide +kernel
theorem dX1_ofAtLeast_80 : decode cX1_ofAtLeast 80 = .ok (.iinc 4 1, 3) := by decide +kernel
theorem dX1_ofAtLeast_83 : decode cX1_ofAtLeast 83 = .ok (.goto (-21), 3) := by decide +kernel
theorem dX1_ofAtLeast_86 : decode cX1_ofAtLeast 86 = .ok (.iload_n 3, 1) := by decide +kernel
theorem dX1_ofAtLeast_87 : decode cX1_ofAtLeast 87 = .ok (.ireturn, 1) := by decide +kernel
theorem dX1_mix_0 : decode cX1_mix 0 = .ok (.iconst 0, 1) := by decide +kernel
theorem dX1_mix_1 : decode cX1_mix 1 = .ok (.istore_n 2, 1) := by decide +kernel
theorem dX1_mix_2 : decode cX1_mix 2 = .ok (.iconst 0, 1) := by decide +kernel
theorem dX1_mix_3 : decode cX1_mix 3 = .ok (.istore_n 3, 1) := by decide +kernel
theorem dX1_mix_4 : decode cX1_mix 4 = .ok (.iload_n 3, 1) := by decide +kernel
theorem dX1_mix_5 : decode cX1_mix 5 = .ok (.sipush 380, 3) := by decide +kernel
theorem dX1_mix_8 : decode cX1_mix 8 = .ok (.if_icmp .gt 47, 3) := by decide +kernel
theorem dX1_mix_11 : decode cX1_mix 11 = .ok (.iload_n 2, 1) := by decide +kernel
theorem dX1_mix_12 : decode cX1_mix 12 = .ok (.aload_n 0, 1) := by decide +kernel
theorem dX1_mix_13 : decode cX1_mix 13 = .ok (.getfield 9, 3) := by decide +kernel
theorem dX1_mix_16 : decode cX1_mix 16 = .ok (.iload_n 3, 1) := by decide +kernel
theorem dX1_mix_17 : decode cX1_mix 17 = .ok (.iaload, 1) := by decide +kernel
theorem dX1_mix_18 : decode cX1_mix 18 = .ok (.iadd, 1) := by decide +kernel
theorem dX1_mix_19 : decode cX1_mix 19 = .ok (.istore_n 2, 1) := by decide +kernel
theorem dX1_mix_20 : decode cX1_mix 20 = .ok (.iload_n 3, 1) := by decide +kernel
theorem dX1_mix_21 : decode cX1_mix 21 = .ok (.iload_n 1, 1) := by decide +kernel
theorem dX1_mix_22 : decode cX1_mix 22 = .ok (.if_icmp .lt 14, 3) := by decide +kernel
theorem dX1_mix_25 : decode cX1_mix 25 = .ok (.iload_n 2, 1) := by decide +kernel
theorem dX1_mix_26 : decode cX1_mix 26 = .ok (.aload_n 0, 1) := by decide +kernel
theorem dX1_mix_27 : decode cX1_mix 27 = .ok (.getfield 9, 3) := by decide +kernel
theorem dX1_mix_30 : decode cX1_mix 30 = .ok (.iload_n 3, 1) := by decide +kernel
theorem dX1_mix_31 : decode cX1_mix 31 = .ok (.iload_n 1, 1) := by decide +kernel
theorem dX1_mix_32 : decode cX1_mix 32 = .ok (.isub, 1) := by decide +kernel
theorem dX1_mix_33 : decode cX1_mix 33 = .ok (.iaload, 1) := by decide +kernel
theorem dX1_mix_34 : decode cX1_mix 34 = .ok (.isub, 1) := by decide +kernel
theorem dX1_mix_35 : decode cX1_mix 35 = .ok (.istore_n 2, 1) := by decide +kernel
theorem dX1_mix_36 : decode cX1_mix 36 = .ok (.aload_n 0, 1) := by decide +kernel
theorem dX1_mix_37 : decode cX1_mix 37 = .ok (.getfield 13, 3) := by decide +kernel
theorem dX1_mix_40 : decode cX1_mix 40 = .ok (.iload_n 3, 1) := by decide +kernel
theorem dX1_mix_41 : decode cX1_mix 41 = .ok (.iload_n 2, 1) := by decide +kernel
theorem dX1_mix_42 : decode cX1_mix 42 = .ok (.i2l, 1) := by decide +kernel
theorem dX1_mix_43 : decode cX1_mix 43 = .ok (.iload_n 1, 1) := by decide +kernel
theorem dX1_mix_44 : decode cX1_mix 44 = .ok (.i2l, 1) := by decide +kernel
theorem dX1_mix_45 : decode cX1_mix 45 = .ok (.invokestatic 42, 3) := by decide +kernel
theorem dX1_mix_48 : decode cX1_mix 48 = .ok (.iastore, 1) := by decide +kernel
theorem dX1_mix_49 : decode cX1_mix 49 = .ok (.iinc 3 1, 3) := by decide +kernel
theorem dX1_mix_52 : decode cX1_mix 52 = .ok (.goto (-48), 3) := by decide +kernel
theorem dX1_mix_55 : decode cX1_mix 55 = .ok (.aload_n 0, 1) := by decide +kernel
theorem dX1_mix_56 : decode cX1_mix 56 = .ok (.getfield 13, 3) := by decide +kernel
theorem dX1_mix_59 : decode cX1_mix 59 = .ok (.iconst 0, 1) := by decide +kernel
theorem dX1_mix_60 : decode cX1_mix 60 = .ok (.aload_n 0, 1) := by decide +kernel
theorem dX1_mix_61 : decode cX1_mix 61 = .ok (.getfield 9, 3) := by decide +kernel
theorem dX1_mix_64 : decode cX1_mix 64 = .ok (.iconst 0, 1) := by decide +kernel
theorem dX1_mix_65 : decode cX1_mix 65 = .ok (.sipush 381, 3) := by decide +kernel
theorem dX1_mix_68 : decode cX1_mix 68 = .ok (.invokestatic 48, 3) := by decide +kernel
theorem dX1_mix_71 : decode cX1_mix 71 = .ok (.return_, 1) := by decide +kernel
theorem dX2_init_0 : decode cX2_init 0 = .ok (.aload_n 0, 1) := by decide +kernel
theorem dX2_init_1 : decode cX2_init 1 = .ok (.invokespecial 3, 3) := by decide +kernel
theorem dX2_init_4 : decode cX2_init 4 = .ok (.aload_n 0, 1) := by decide +kernel
theorem dX2_init_5 : decode cX2_init 5 = .ok (.bipush 40, 2) := by decide +kernel
theorem dX2_init_7 : decode cX2_init 7 = .ok (.newarray .int, 2) := by decide +kernel
theorem dX2_init_9 : decode cX2_init 9 = .ok (.putfield 9, 3) := by decide +kernel
theorem dX2_init_12 : decode cX2_init 12 = .ok (.aload_n 0, 1) := by decide +kernel
theorem dX2_init_13 : decode cX2_init 13 = .ok (.bipush 40, 2) := by decide +kernel
theorem dX2_init_15 : decode cX2_init 15 = .ok (.newarray .int, 2) := by decide +kernel
theorem dX2_init_17 : decode cX2_init 17 = .ok (.putfield 15, 3) := by decide +kernel
theorem dX2_init_20 : decode cX2_init 20 = .ok (.return_, 1) := by decide +kernel
theorem dX2_search_0 : decode cX2_search 0 = .ok (.iconst 0, 1) := by decide +kernel
theorem dX2_search_1 : decode cX2_search 1 = .ok (.istore 5, 2) := by decide +kernel
theorem dX2_search_3 : decode cX2_search 3 = .ok (.iload 5, 2) := by decide +kernel
theorem dX2_search_5 : decode cX2_search 5 = .ok (.aload_n 1, 1) := by decide +kernel
theorem dX2_search_6 : decode cX2_search 6 = .ok (.getfield 18, 3) := by decide +kernel
theorem dX2_search_9 : decode cX2_search 9 = .ok (.if_icmp .ge 73, 3) := by decide +kernel
theorem dX2_search_12 : decode cX2_search 12 = .ok (.aload_n 0, 1) := by decide +kernel
theorem dX2_search_13 : decode cX2_search 13 = .ok (.getfield 9, 3) := by decide +kernel
theorem dX2_search_16 : decode cX2_search 16 = .ok (.iload 5, 2) := by decide +kernel
theorem dX2_search_18 : decode cX2_search 18 = .ok (.iconst 2, 1) := by decide +kernel
theorem dX2_search_19 : decode cX2_search 19 = .ok (.aload_n 3, 1) := by decide +kernel
theorem dX2_search_20 : decode cX2_search 20 = .ok (.aload_n 1, 1) := by decide +kernel
theorem dX2_search_21 : decode cX2_search 21 = .ok (.getfield 24, 3) := by decide +kernel
theorem dX2_search_24 : decode cX2_search 24 = .ok (.iload 5, 2) := by decide +kernel
theorem dX2_search_26 : decode cX2_search 26 = .ok (.iaload, 1) := by decide +kernel
theorem dX2_search_27 : decode cX2_search 27 = .ok (.aload_n 1, 1) := by decide +kernel
theorem dX2_search_28 : decode cX2_search 28 = .ok (.getfield 27, 3) := by decide +kernel
theorem dX2_search_31 : decode cX2_search 31 = .ok (.iload 5, 2) := by decide +kernel
theorem dX2_search_33 : decode cX2_search 33 = .ok (.iaload, 1) := by decide +kernel
theorem dX2_search_34 : decode cX2_search 34 = .ok (.invokevirtual 30, 3) := by decide +kernel
theorem dX2_search_37 : decode cX2_search 37 = .ok (.imul, 1) := by decide +kernel
theorem dX2_search_38 : decode cX2_search 38 = .ok (.iastore, 1) := by decide +kernel
theorem dX2_search_39 : decode cX2_search 39 = .ok (.aload_n 0, 1) := by decide +kernel
theorem dX2_search_40 : decode cX2_search 40 = .ok (.getfield 15, 3) := by decide +kernel
theorem dX2_search_43 : decode cX2_search 43 = .ok (.iload 5, 2) := by decide +kernel
theorem dX2_search_45 : decode cX2_search 45 = .ok (.aload 4, 2) := by decide +kernel
theorem dX2_search_47 : decode cX2_search 47 = .ok (.ifnonnull 7, 3) := by decide +kernel
theorem dX2_search_50 : decode cX2_search 50 = .ok (.iconst 0, 1) := by decide +kernel
theorem dX2_search_51 : decode cX2_search 51 = .ok (.goto 24, 3) := by decide +kernel
theorem dX2_search_54 : decode cX2_search 54 = .ok (.iconst 2, 1) := by decide +kernel
theorem dX2_search_55 : decode cX2_search 55 = .ok (.aload 4, 2) := by decide +kernel
theorem dX2_search_57 : decode cX2_search 57 = .ok (.aload_n 1, 1) := by decide +kernel
theorem dX2_search_58 : decode cX2_search 58 = .ok (.getfield 24, 3) := by decide +kernel
theorem dX2_search_61 : decode cX2_search 61 = .ok (.iload 5, 2) := by decide +kernel
theorem dX2_search_63 : decode cX2_search 63 = .ok (.iaload, 1) := by decide +kernel
theorem dX2_search_64 : decode cX2_search 64 = .ok (.aload_n 1, 1) := by decide +kernel
theorem dX2_search_65 : decode cX2_search 65 = .ok (.getfield 27, 3) := by decide +kernel
theorem dX2_search_68 : decode cX2_search 68 = .ok (.iload 5, 2) := by decide +kernel
theorem dX2_search_70 : decode cX2_search 70 = .ok (.iaload, 1) := by decide +kernel
theorem dX2_search_71 : decode cX2_search 71 = .ok (.invokevirtual 30, 3) := by decide +kernel
theorem dX2_search_74 : decode cX2_search 74 = .ok (.imul, 1) := by decide +kernel
theorem dX2_search_75 : decode cX2_search 75 = .ok (.iastore, 1) := by decide +kernel
theorem dX2_search_76 : decode cX2_search 76 = .ok (.iinc 5 1, 3) := by decide +kernel
theorem dX2_search_79 : decode cX2_search 79 = .ok (.goto (-76), 3) := by decide +kernel
theorem dX2_search_82 : decode cX2_search 82 = .ok (.aload 4, 2) := by decide +kernel
theorem dX2_search_84 : decode cX2_search 84 = .ok (.ifnonnull 7, 3) := by decide +kernel
theorem dX2_search_87 : decode cX2_search 87 = .ok (.iconst 0, 1) := by decide +kernel
theorem dX2_search_88 : decode cX2_search 88 = .ok (.goto 5, 3) := by decide +kernel
theorem dX2_search_91 : decode cX2_search 91 = .ok (.bipush 60, 2) := by decide +kernel
theorem dX2_search_93 : decode cX2_search 93 = .ok (.istore 5, 2) := by decide +kernel
theorem dX2_search_95 : decode cX2_search 95 = .ok (.ldc 38, 2) := by decide +kernel
theorem dX2_search_97 : decode cX2_search 97 = .ok (.istore 6, 2) := by decide +kernel
theorem dX2_search_99 : decode cX2_search 99 = .ok (.iconst 0, 1) := by decide +kernel
theorem dX2_search_100 : decode cX2_search 100 = .ok (.istore 7, 2) := by decide +kernel
theorem dX2_search_102 : decode cX2_search 102 = .ok (.iload 7, 2) := by decide +kernel
theorem dX2_search_104 : decode cX2_search 104 = .ok (.bipush 60, 2) := by decide +kernel
theorem dX2_search_106 : decode cX2_search 106 = .ok (.if_icmp .gt 65, 3) := by decide +kernel
theorem dX2_search_109 : decode cX2_search 109 = .ok (.iconst 0, 1) := by decide +kernel
theorem dX2_search_110 : decode cX2_search 110 = .ok (.istore 8, 2) := by decide +kernel
theorem dX2_search_112 : decode cX2_search 112 = .ok (.iload 8, 2) := by decide +kernel
theorem dX2_search_114 : decode cX2_search 114 = .ok (.iload 5, 2) := by decide +kernel
theorem dX2_search_116 : decode cX2_search 116 = .ok (.if_icmp .gt 49, 3) := by decide +kernel
theorem dX2_search_119 : decode cX2_search 119 = .ok (.aload_n 0, 1) := by decide +kernel
theorem dX2_search_120 : decode cX2_search 120 = .ok (.aload_n 2, 1) := by decide +kernel
theorem dX2_search_121 : decode cX2_search 121 = .ok (.aload_n 1, 1) := by decide +kernel
theorem dX2_search_122 : decode cX2_search 122 = .ok (.getfield 18, 3) := by decide +kernel
theorem dX2_search_125 : decode cX2_search 125 = .ok (.iload 7, 2) := by decide +kernel
theorem dX2_search_127 : decode cX2_search 127 = .ok (.iload 8, 2) := by decide +kernel
theorem dX2_search_129 : decode cX2_search 129 = .ok (.iload 6, 2) := by decide +kernel
theorem dX2_search_131 : decode cX2_search 131 = .ok (.invokevirtual 39, 3) := by decide +kernel
theorem dX2_search_134 : decode cX2_search 134 = .ok (.istore 9, 2) := by decide +kernel
theorem dX2_search_136 : decode cX2_search 136 = .ok (.iload 9, 2) := by decide +kernel
theorem dX2_search_138 : decode cX2_search 138 = .ok (.iload 6, 2) := by decide +kernel
theorem dX2_search_140 : decode cX2_search 140 = .ok (.if_icmp .ge 19, 3) := by decide +kernel
theorem dX2_search_143 : decode cX2_search 143 = .ok (.iload 9, 2) := by decide +kernel
theorem dX2_search_145 : decode cX2_search 145 = .ok (.istore 6, 2) := by decide +kernel
theorem dX2_search_147 : decode cX2_search 147 = .ok (.aload_n 0, 1) := by decide +kernel
theorem dX2_search_148 : decode cX2_search 148 = .ok (.iload 7, 2) := by decide +kernel
theorem dX2_search_150 : decode cX2_search 150 = .ok (.putfield 43, 3) := by decide +kernel
theorem dX2_search_153 : decode cX2_search 153 = .ok (.aload_n 0, 1) := by decide +kernel
theorem dX2_search_154 : decode cX2_search 154 = .ok (.iload 8, 2) := by decide +kernel
theorem dX2_search_156 : decode cX2_search 156 = .ok (.putfield 46, 3) := by decide +kernel
theorem dX2_search_159 : decode cX2_search 159 = .ok (.iinc 8 1, 3) := by decide +kernel
theorem dX2_search_162 : decode cX2_search 162 = .ok (.goto (-50), 3) := by decide +kernel
theorem dX2_search_165 : decode cX2_search 165 = .ok (.iinc 7 1, 3) := by decide +kernel
theorem dX2_search_168 : decode cX2_search 168 = .ok (.goto (-66), 3) := by decide +kernel
theorem dX2_search_171 : decode cX2_search 171 = .ok (.aload_n 0, 1) := by decide +kernel
theorem dX2_search_172 : decode cX2_search 172 = .ok (.iconst 1, 1) := by decide +kernel
theorem dX2_search_173 : decode cX2_search 173 = .ok (.putfield 49, 3) := by decide +kernel
theorem dX2_search_176 : decode cX2_search 176 = .ok (.iload 6, 2) := by decide +kernel
theorem dX2_search_178 : decode cX2_search 178 = .ok (.ireturn, 1) := by decide +kernel
theorem dX2_differing_0 : decode cX2_differing 0 = .ok (.iconst 0, 1) := by decide +kernel
theorem dX2_differing_1 : decode cX2_differing 1 = .ok (.istore 6, 2) := by decide +kernel
theorem dX2_differing_3 : decode cX2_differing 3 = .ok (.iconst 0, 1) := by decide +kernel
theorem dX2_differing_4 : decode cX2_differing 4 = .ok (.istore 7, 2) := by decide +kernel
theorem dX2_differing_6 : decode cX2_differing 6 = .ok (.iload 7, 2) := by decide +kernel
theorem dX2_differing_8 : decode cX2_differing 8 = .ok (.iload_n 2, 1) := by decide +kernel
theorem dX2_differing_9 : decode cX2_differing 9 = .ok (.if_icmp .ge 49, 3) := by decide +kernel
theorem dX2_differing_12 : decode cX2_differing 12 = .ok (.iload 6, 2) := by decide +kernel
theorem dX2_differing_14 : decode cX2_differing 14 = .ok (.iload 5, 2) := by decide +kernel
theorem dX2_differing_16 : decode cX2_differing 16 = .ok (.if_icmp .ge 42, 3) := by decide +kernel
theorem dX2_differing_19 : decode cX2_differing 19 = .ok (.iload 6, 2) := by decide +kernel
theorem dX2_differing_21 : decode cX2_differing 21 = .ok (.iload_n 3, 1) := by decide +kernel
theorem dX2_differing_22 : decode cX2_differing 22 = .ok (.aload_n 0, 1) := by decide +kernel
theorem dX2_differing_23 : decode cX2_differing 23 = .ok (.getfield 9, 3) := by decide +kernel
theorem dX2_differing_26 : decode cX2_differing 26 = .ok (.iload 7, 2) := by decide +kernel
theorem dX2_differing_28 : decode cX2_differing 28 = .ok (.iaload, 1) := by decide +kernel
theorem dX2_differing_29 : decode cX2_differing 29 = .ok (.imul, 1) := by decide +kernel
theorem dX2_differing_30 : decode cX2_differing 30 = .ok (.iload 4, 2) := by decide +kernel
theorem dX2_differing_32 : decode cX2_differing 32 = .ok (.aload_n 0, 1) := by decide +kernel
theorem dX2_differing_33 : decode cX2_differing 33 = .ok (.getfield 15, 3) := by decide +kernel
theorem dX2_differing_36 : decode cX2_differing 36 = .ok (.iload 7, 2) := by decide +kernel
theorem dX2_differing_38 : decode cX2_differing 38 = .ok (.iaload, 1) := by decide +kernel
theorem dX2_differing_39 : decode cX2_differing 39 = .ok (.imul, 1) := by decide +kernel
theorem dX2_differing_40 : decode cX2_differing 40 = .ok (.iadd, 1) := by decide +kernel
theorem dX2_differing_41 : decode cX2_differing 41 = .ok (.aload_n 1, 1) := by decide +kernel
theorem dX2_differing_42 : decode cX2_differing 42 = .ok (.iload 7, 2) := by decide +kernel
theorem dX2_differing_44 : decode cX2_differing 44 = .ok (.iaload, 1) := by decide +kernel
theorem dX2_differing_45 : decode cX2_differing 45 = .ok (.isub, 1) := by decide +kernel
theorem dX2_differing_46 : decode cX2_differing 46 = .ok (.invokestatic 53, 3) := by decide +kernel
theorem dX2_differing_49 : decode cX2_differing 49 = .ok (.iadd, 1) := by decide +kernel
theorem dX2_differing_50 : decode cX2_differing 50 = .ok (.istore 6, 2) := by decide +kernel
theorem dX2_differing_52 : decode cX2_differing 52 = .ok (.iinc 7 1, 3) := by decide +kernel
theorem dX2_differing_55 : decode cX2_differing 55 = .ok (.goto (-49), 3) := by decide +kernel
theorem dX2_differing_58 : decode cX2_differing 58 = .ok (.iload 6, 2) := by decide +kernel
theorem dX2_differing_60 : decode cX2_differing 60 = .ok (.ireturn, 1) := by decide +kernel
theorem dX3_init_0 : decode cX3_init 0 = .ok (.aload_n 0, 1) := by decide +kernel
theorem dX3_init_1 : decode cX3_init 1 = .ok (.invokespecial 3, 3) := by decide +kernel
theorem dX3_init_4 : decode cX3_init 4 = .ok (.aload_n 0, 1) := by decide +kernel
theorem dX3_init_5 : decode cX3_init 5 = .ok (.bipush 40, 2) := by decide +kernel
theorem dX3_init_7 : decode cX3_init 7 = .ok (.newarray .int, 2) := by decide +kernel
theorem dX3_init_9 : decode cX3_init 9 = .ok (.putfield 9, 3) := by decide +kernel
theorem dX3_init_12 : decode cX3_init 12 = .ok (.aload_n 0, 1) := by decide +kernel
theorem dX3_init_13 : decode cX3_init 13 = .ok (.bipush 40, 2) := by decide +kernel
theorem dX3_init_15 : decode cX3_init 15 = .ok (.newarray .int, 2) := by decide +kernel
theorem dX3_init_17 : decode cX3_init 17 = .ok (.putfield 15, 3) := by decide +kernel
theorem dX3_init_20 : decode cX3_init 20 = .ok (.aload_n 0, 1) := by decide +kernel
theorem dX3_init_21 : decode cX3_init 21 = .ok (.getfield 9, 3) := by decide +kernel
theorem dX3_init_24 : decode cX3_init 24 = .ok (.iconst (-1), 1) := by decide +kernel
theorem dX3_init_25 : decode cX3_init 25 = .ok (.invokestatic 18, 3) := by decide +kernel
theorem dX3_init_28 : decode cX3_init 28 = .ok (.return_, 1) := by decide +kernel
theorem dX3_wipe_0 : decode cX3_wipe 0 = .ok (.aload_n 0, 1) := by decide +kernel
theorem dX3_wipe_1 : decode cX3_wipe 1 = .ok (.getfield 9, 3) := by decide +kernel
theorem dX3_wipe_4 : decode cX3_wipe 4 = .ok (.iconst (-1), 1) := by decide +kernel
theorem dX3_wipe_5 : decode cX3_wipe 5 = .ok (.invokestatic 18, 3) := by decide +kernel
theorem dX3_wipe_8 : decode cX3_wipe 8 = .ok (.aload_n 0, 1) := by decide +kernel
theorem dX3_wipe_9 : decode cX3_wipe 9 = .ok (.getfield 15, 3) := by decide +kernel
theorem dX3_wipe_12 : decode cX3_wipe 12 = .ok (.iconst 0, 1) := by decide +kernel
theorem dX3_wipe_13 : decode cX3_wipe 13 = .ok (.invokestatic 18, 3) := by decide +kernel
theorem dX3_wipe_16 : decode cX3_wipe 16 = .ok (.return_, 1) := by decide +kernel
theorem dX3_copy_0 : decode cX3_copy 0 = .ok (.aload_n 1, 1) := by decide +kernel
theorem dX3_copy_1 : decode cX3_copy 1 = .ok (.getfield 9, 3) := by decide +kernel
theorem dX3_copy_4 : decode cX3_copy 4 = .ok (.iconst 0, 1) := by decide +kernel
theorem dX3_copy_5 : decode cX3_copy 5 = .ok (.aload_n 0, 1) := by decide +kernel
theorem dX3_copy_6 : decode cX3_copy 6 = .ok (.getfield 9, 3) := by decide +kernel
theorem dX3_copy_9 : decode cX3_copy 9 = .ok (.iconst 0, 1) := by decide +kernel
theorem dX3_copy_10 : decode cX3_copy 10 = .ok (.bipush 40, 2) := by decide +kernel
theorem dX3_copy_12 : decode cX3_copy 12 = .ok (.invokestatic 24, 3) := by decide +kernel
theorem dX3_copy_15 : decode cX3_copy 15 = .ok (.aload_n 1, 1) := by decide +kernel
theorem dX3_copy_16 : decode cX3_copy 16 = .ok (.getfield 15, 3) := by decide +kernel
theorem dX3_copy_19 : decode cX3_copy 19 = .ok (.iconst 0, 1) := by decide +kernel
theorem dX3_copy_20 : decode cX3_copy 20 = .ok (.aload_n 0, 1) := by decide +kernel
theorem dX3_copy_21 : decode cX3_copy 21 = .ok (.getfield 15, 3) := by decide +kernel
theorem dX3_copy_24 : decode cX3_copy 24 = .ok (.iconst 0, 1) := by decide +kernel
theorem dX3_copy_25 : decode cX3_copy 25 = .ok (.bipush 40, 2) := by decide +kernel
theorem dX3_copy_27 : decode cX3_copy 27 = .ok (.invokestatic 24, 3) := by decide +kernel
theorem dX3_copy_30 : decode cX3_copy 30 = .ok (.return_, 1) := by decide +kernel
theorem dX3_wasRead_0 : decode cX3_wasRead 0 = .ok (.aload_n 0, 1) := by decide +kernel
theorem dX3_wasRead_1 : decode cX3_wasRead 1 = .ok (.getfield 9, 3) := by decide +kernel
theorem dX3_wasRead_4 : decode cX3_wasRead 4 = .ok (.iload_n 1, 1) := by decide +kernel
theorem dX3_wasRead_5 : decode cX3_wasRead 5 = .ok (.iaload, 1) := by decide +kernel
theorem dX3_wasRead_6 : decode cX3_wasRead 6 = .ok (.iconst (-1), 1) := by decide +kernel
theorem dX3_wasRead_7 : decode cX3_wasRead 7 = .ok (.if_icmp .eq 7, 3) := by decide +kernel
theorem dX3_wasRead_10 : decode cX3_wasRead 10 = .ok (.iconst 1, 1) := by decide +kernel
theorem dX3_wasRead_11 : decode cX3_wasRead 11 = .ok (.goto 4, 3) := by decide +kernel
theorem dX3_wasRead_14 : decode cX3_wasRead 14 = .ok (.iconst 0, 1) := by decide +kernel
theorem dX3_wasRead_15 : decode cX3_wasRead 15 = .ok (.ireturn, 1) := by decide +kernel
theorem dX3_readAll_0 : decode cX3_readAll 0 = .ok (.iconst 0, 1) := by decide +kernel
theorem dX3_readAll_1 : decode cX3_readAll 1 = .ok (.istore_n 2, 1) := by decide +kernel
theorem dX3_readAll_2 : decode cX3_readAll 2 = .ok (.iload_n 2, 1) := by decide +kernel
theorem dX3_readAll_3 : decode cX3_readAll 3 = .ok (.iload_n 1, 1) := by decide +kernel
theorem dX3_readAll_4 : decode cX3_readAll 4 = .ok (.if_icmp .ge 19, 3) := by decide +kernel
theorem dX3_readAll_7 : decode cX3_readAll 7 = .ok (.aload_n 0, 1) := by decide +kernel
theorem dX3_readAll_8 : decode cX3_readAll 8 = .ok (.iload_n 2, 1) := by decide +kernel
theorem dX3_readAll_9 : decode cX3_readAll 9 = .ok (.invokevirtual 30, 3) := by decide +kernel
theorem dX3_readAll_12 : decode cX3_readAll 12 = .ok (.ifCond .ne 5, 3) := by decide +kernel
theorem dX3_readAll_15 : decode cX3_readAll 15 = .ok (.iconst 0, 1) := by decide +kernel
theorem dX3_readAll_16 : decode cX3_readAll 16 = .ok (.ireturn, 1) := by decide +kernel
theorem dX3_readAll_17 : decode cX3_readAll 17 = .ok (.iinc 2 1, 3) := by decide +kernel
theorem dX3_readAll_20 : decode cX3_readAll 20 = .ok (.goto (-18), 3) := by decide +kernel
theorem dX3_readAll_23 : decode cX3_readAll 23 = .ok (.iload_n 1, 1) := by decide +kernel
theorem dX3_readAll_24 : decode cX3_readAll 24 = .ok (.ifCond .le 7, 3) := by decide +kernel
theorem dX3_readAll_27 : decode cX3_readAll 27 = .ok (.iconst 1, 1) := by decide +kernel
theorem dX3_readAll_28 : decode cX3_readAll 28 = .ok (.goto 4, 3) := by decide +kernel
theorem dX3_readAll_31 : decode cX3_readAll 31 = .ok (.iconst 0, 1) := by decide +kernel
theorem dX3_readAll_32 : decode cX3_readAll 32 = .ok (.ireturn, 1) := by decide +kernel
theorem dX3_take_0 : decode cX3_take 0 = .ok (.iload_n 2, 1) := by decide +kernel
theorem dX3_take_1 : decode cX3_take 1 = .ok (.ifCond .lt 9, 3) := by decide +kernel
theorem dX3_take_4 : decode cX3_take 4 = .ok (.iload_n 2, 1) := by decide +kernel
theorem dX3_take_5 : decode cX3_take 5 = .ok (.ldc 34, 2) := by decide +kernel
theorem dX3_take_7 : decode cX3_take 7 = .ok (.if_icmp .le 5, 3) := by decide +kernel
theorem dX3_take_10 : decode cX3_take 10 = .ok (.iconst 0, 1) := by decide +kernel
theorem dX3_take_11 : decode cX3_take 11 = .ok (.ireturn, 1) := by decide +kernel
theorem dX3_take_12 : decode cX3_take 12 = .ok (.iconst 0, 1) := by decide +kernel
theorem dX3_take_13 : decode cX3_take 13 = .ok (.iload_n 2, 1) := by decide +kernel
theorem dX3_take_14 : decode cX3_take 14 = .ok (.iload_n 3, 1) := by decide +kernel
theorem dX3_take_15 : decode cX3_take 15 = .ok (.isub, 1) := by decide +kernel
theorem dX3_take_16 : decode cX3_take 16 = .ok (.invokestatic 35, 3) := by decide +kernel
theorem dX3_take_19 : decode cX3_take 19 = .ok (.istore 4, 2) := by decide +kernel
theorem dX3_take_21 : decode cX3_take 21 = .ok (.iload_n 2, 1) := by decide +kernel
theorem dX3_take_22 : decode cX3_take 22 = .ok (.iload_n 3, 1) := by decide +kernel
theorem dX3_take_23 : decode cX3_take 23 = .ok (.iadd, 1) := by decide +kernel
theorem dX3_take_24 : decode cX3_take 24 = .ok (.istore 5, 2) := by decide +kernel
theorem dX3_take_26 : decode cX3_take 26 = .ok (.aload_n 0, 1) := by decide +kernel
theorem dX3_take_27 : decode cX3_take 27 = .ok (.iload_n 1, 1) := by decide +kernel
theorem dX3_take_28 : decode cX3_take 28 = .ok (.invokevirtual 30, 3) := by decide +kernel
theorem dX3_take_31 : decode cX3_take 31 = .ok (.ifCond .eq 29, 3) := by decide +kernel
theorem dX3_take_34 : decode cX3_take 34 = .ok (.iload 4, 2) := by decide +kernel
theorem dX3_take_36 : decode cX3_take 36 = .ok (.aload_n 0, 1) := by decide +kernel
theorem dX3_take_37 : decode cX3_take 37 = .ok (.getfield 9, 3) := by decide +kernel
theorem dX3_take_40 : decode cX3_take 40 = .ok (.iload_n 1, 1) := by decide +kernel
theorem dX3_take_41 : decode cX3_take 41 = .ok (.iaload, 1) := by decide +kernel
theorem dX3_take_42 : decode cX3_take 42 = .ok (.invokestatic 35, 3) := by decide +kernel
theorem dX3_take_45 : decode cX3_take 45 = .ok (.istore 4, 2) := by decide +kernel
theorem dX3_take_47 : decode cX3_take 47 = .ok (.iload 5, 2) := by decide +kernel
theorem dX3_take_49 : decode cX3_take 49 = .ok (.aload_n 0, 1) := by decide +kernel
theorem dX3_take_50 : decode cX3_take 50 = .ok (.getfield 15, 3) := by decide +kernel
theorem dX3_take_53 : decode cX3_take 53 = .ok (.iload_n 1, 1) := by decide +kernel
theorem dX3_take_54 : decode cX3_take 54 = .ok (.iaload, 1) := by decide +kernel
theorem dX3_take_55 : decode cX3_take 55 = .ok (.invokestatic 41, 3) := by decide +kernel
theorem dX3_take_58 : decode cX3_take 58 = .ok (.istore 5, 2) := by decide +kernel
theorem dX3_take_60 : decode cX3_take 60 = .ok (.iload 4, 2) := by decide +kernel
theorem dX3_take_62 : decode cX3_take 62 = .ok (.iload 5, 2) := by decide +kernel
theorem dX3_take_64 : decode cX3_take 64 = .ok (.if_icmp .le 5, 3) := by decide +kernel
theorem dX3_take_67 : decode cX3_take 67 = .ok (.iconst 0, 1) := by decide +kernel
theorem dX3_take_68 : decode cX3_take 68 = .ok (.ireturn, 1) := by decide +kernel
theorem dX3_take_69 : decode cX3_take 69 = .ok (.aload_n 0, 1) := by decide +kernel
theorem dX3_take_70 : decode cX3_take 70 = .ok (.getfield 9, 3) := by decide +kernel
theorem dX3_take_73 : decode cX3_take 73 = .ok (.iload_n 1, 1) := by decide +kernel
theorem dX3_take_74 : decode cX3_take 74 = .ok (.iload 4, 2) := by decide +kernel
theorem dX3_take_76 : decode cX3_take 76 = .ok (.iastore, 1) := by decide +kernel
theorem dX3_take_77 : decode cX3_take 77 = .ok (.aload_n 0, 1) := by decide +kernel
theorem dX3_take_78 : decode cX3_take 78 = .ok (.getfield 15, 3) := by decide +kernel
theorem dX3_take_81 : decode cX3_take 81 = .ok (.iload_n 1, 1) := by decide +kernel
theorem dX3_take_82 : decode cX3_take 82 = .ok (.iload 5, 2) := by decide +kernel
theorem dX3_take_84 : decode cX3_take 84 = .ok (.iastore, 1) := by decide +kernel
theorem dX3_take_85 : decode cX3_take 85 = .ok (.iconst 1, 1) := by decide +kernel
theorem dX3_take_86 : decode cX3_take 86 = .ok (.ireturn, 1) := by decide +kernel
theorem dX4_init_0 : decode cX4_init 0 = .ok (.aload_n 0, 1) := by decide +kernel
theorem dX4_init_1 : decode cX4_init 1 = .ok (.invokespecial 3, 3) := by decide +kernel
theorem dX4_init_4 : decode cX4_init 4 = .ok (.aload_n 0, 1) := by decide +kernel
theorem dX4_init_5 : decode cX4_init 5 = .ok (.bipush 12, 2) := by decide +kernel
theorem dX4_init_7 : decode cX4_init 7 = .ok (.newarray .int, 2) := by decide +kernel
theorem dX4_init_9 : decode cX4_init 9 = .ok (.putfield 9, 3) := by decide +kernel
theorem dX4_init_12 : decode cX4_init 12 = .ok (.aload_n 0, 1) := by decide +kernel
theorem dX4_init_13 : decode cX4_init 13 = .ok (.bipush 12, 2) := by decide +kernel
theorem dX4_init_15 : decode cX4_init 15 = .ok (.newarray .int, 2) := by decide +kernel
theorem dX4_init_17 : decode cX4_init 17 = .ok (.putfield 15, 3) := by decide +kernel
theorem dX4_init_20 : decode cX4_init 20 = .ok (.return_, 1) := by decide +kernel
theorem dX4_sort_0 : decode cX4_sort 0 = .ok (.aload_n 0, 1) := by decide +kernel
theorem dX4_sort_1 : decode cX4_sort 1 = .ok (.iconst 0, 1) := by decide +kernel
theorem dX4_sort_2 : decode cX4_sort 2 = .ok (.putfield 18, 3) := by decide +kernel
theorem dX4_sort_5 : decode cX4_sort 5 = .ok (.iconst 0, 1) := by decide +kernel
theorem dX4_sort_6 : decode cX4_sort 6 = .ok (.istore_n 2, 1) := by decide +kernel
theorem dX4_sort_7 : decode cX4_sort 7 = .ok (.iload_n 2, 1) := by decide +kernel
theorem dX4_sort_8 : decode cX4_sort 8 = .ok (.bipush 12, 2) := by decide +kernel
theorem dX4_sort_10 : decode cX4_sort 10 = .ok (.if_icmp .ge 29, 3) := by decide +kernel
theorem dX4_sort_13 : decode cX4_sort 13 = .ok (.aload_n 1, 1) := by decide +kernel
theorem dX4_sort_14 : decode cX4_sort 14 = .ok (.getfield 22, 3) := by decide +kernel
theorem dX4_sort_17 : decode cX4_sort 17 = .ok (.iload_n 2, 1) := by decide +kernel
theorem dX4_sort_18 : decode cX4_sort 18 = .ok (.iaload, 1) := by decide +kernel
theorem dX4_sort_19 : decode cX4_sort 19 = .ok (.ifCond .le 14, 3) := by decide +kernel
theorem dX4_sort_22 : decode cX4_sort 22 = .ok (.aload_n 0, 1) := by decide +kernel
theorem dX4_sort_23 : decode cX4_sort 23 = .ok (.iload_n 2, 1) := by decide +kernel
theorem dX4_sort_24 : decode cX4_sort 24 = .ok (.aload_n 1, 1) := by decide +kernel
theorem dX4_sort_25 : decode cX4_sort 25 = .ok (.getfield 27, 3) := by decide +kernel
theorem dX4_sort_28 : decode cX4_sort 28 = .ok (.iload_n 2, 1) := by decide +kernel
theorem dX4_sort_29 : decode cX4_sort 29 = .ok (.iaload, 1) := by decide +kernel
theorem dX4_sort_30 : decode cX4_sort 30 = .ok (.invokevirtual 30, 3) := by decide +kernel
theorem dX4_sort_33 : decode cX4_sort 33 = .ok (.iinc 2 1, 3) := by decide +kernel
theorem dX4_sort_36 : decode cX4_sort 36 = .ok (.goto (-29), 3) := by decide +kernel
theorem dX4_sort_39 : decode cX4_sort 39 = .ok (.return_, 1) := by decide +kernel
theorem dX4_insert_0 : decode cX4_insert 0 = .ok (.aload_n 0, 1) := by decide +kernel
theorem dX4_insert_1 : decode cX4_insert 1 = .ok (.getfield 18, 3) := by decide +kernel
theorem dX4_insert_4 : decode cX4_insert 4 = .ok (.istore_n 3, 1) := by decide +kernel
theorem dX4_insert_5 : decode cX4_insert 5 = .ok (.iload_n 3, 1) := by decide +kernel
theorem dX4_insert_6 : decode cX4_insert 6 = .ok (.ifCond .le 49, 3) := by decide +kernel
theorem dX4_insert_9 : decode cX4_insert 9 = .ok (.aload_n 0, 1) := by decide +kernel
theorem dX4_insert_10 : decode cX4_insert 10 = .ok (.getfield 15, 3) := by decide +kernel
theorem dX4_insert_13 : decode cX4_insert 13 = .ok (.iload_n 3, 1) := by decide +kernel
theorem dX4_insert_14 : decode cX4_insert 14 = .ok (.iconst 1, 1) := by decide +kernel
theorem dX4_insert_15 : decode cX4_insert 15 = .ok (.isub, 1) := by decide +kernel
theorem dX4_insert_16 : decode cX4_insert 16 = .ok (.iaload, 1) := by decide +kernel
theorem dX4_insert_17 : decode cX4_insert 17 = .ok (.iload_n 2, 1) := by decide +kernel
theorem dX4_insert_18 : decode cX4_insert 18 = .ok (.if_icmp .le 37, 3) := by decide +kernel
theorem dX4_insert_21 : decode cX4_insert 21 = .ok (.aload_n 0, 1) := by decide +kernel
theorem dX4_insert_22 : decode cX4_insert 22 = .ok (.getfield 15, 3) := by decide +kernel
theorem dX4_insert_25 : decode cX4_insert 25 = .ok (.iload_n 3, 1) := by decide +kernel
theorem dX4_insert_26 : decode cX4_insert 26 = .ok (.aload_n 0, 1) := by decide +kernel
theorem dX4_insert_27 : decode cX4_insert 27 = .ok (.getfield 15, 3) := by decide +kernel
theorem dX4_insert_30 : decode cX4_insert 30 = .ok (.iload_n 3, 1) := by decide +kernel
theorem dX4_insert_31 : decode cX4_insert 31 = .ok (.iconst 1, 1) := by decide +kernel
theorem dX4_insert_32 : decode cX4_insert 32 = .ok (.isub, 1) := by decide +kernel
theorem dX4_insert_33 : decode cX4_insert 33 = .ok (.iaload, 1) := by decide +kernel
theorem dX4_insert_34 : decode cX4_insert 34 = .ok (.iastore, 1) := by decide +kernel
theorem dX4_insert_35 : decode cX4_insert 35 = .ok (.aload_n 0, 1) := by decide +kernel
theorem dX4_insert_36 : decode cX4_insert 36 = .ok (.getfield 9, 3) := by decide +kernel
theorem dX4_insert_39 : decode cX4_insert 39 = .ok (.iload_n 3, 1) := by decide +kernel
theorem dX4_insert_40 : decode cX4_insert 40 = .ok (.aload_n 0, 1) := by decide +kernel
theorem dX4_insert_41 : decode cX4_insert 41 = .ok (.getfield 9, 3) := by decide +kernel
theorem dX4_insert_44 : decode cX4_insert 44 = .ok (.iload_n 3, 1) := by decide +kernel
theorem dX4_insert_45 : decode cX4_insert 45 = .ok (.iconst 1, 1) := by decide +kernel
theorem dX4_insert_46 : decode cX4_insert 46 = .ok (.isub, 1) := by decide +kernel
theorem dX4_insert_47 : decode cX4_insert 47 = .ok (.iaload, 1) := by decide +kernel
theorem dX4_insert_48 : decode cX4_insert 48 = .ok (.iastore, 1) := by decide +kernel
theorem dX4_insert_49 : decode cX4_insert 49 = .ok (.iinc 3 (-1), 3) := by decide +kernel
theorem dX4_insert_52 : decode cX4_insert 52 = .ok (.goto (-47), 3) := by decide +kernel
theorem dX4_insert_55 : decode cX4_insert 55 = .ok (.aload_n 0, 1) := by decide +kernel
theorem dX4_insert_56 : decode cX4_insert 56 = .ok (.getfield 15, 3) := by decide +kernel
theorem dX4_insert_59 : decode cX4_insert 59 = .ok (.iload_n 3, 1) := by decide +kernel
theorem dX4_insert_60 : decode cX4_insert 60 = .ok (.iload_n 2, 1) := by decide +kernel
theorem dX4_insert_61 : decode cX4_insert 61 = .ok (.iastore, 1) := by decide +kernel
theorem dX4_insert_62 : decode cX4_insert 62 = .ok (.aload_n 0, 1) := by decide +kernel
theorem dX4_insert_63 : decode cX4_insert 63 = .ok (.getfield 9, 3) := by decide +kernel
theorem dX4_insert_66 : decode cX4_insert 66 = .ok (.iload_n 3, 1) := by decide +kernel
theorem dX4_insert_67 : decode cX4_insert 67 = .ok (.iload_n 1, 1) := by decide +kernel
theorem dX4_insert_68 : decode cX4_insert 68 = .ok (.iastore, 1) := by decide +kernel
theorem dX4_insert_69 : decode cX4_insert 69 = .ok (.aload_n 0, 1) := by decide +kernel
theorem dX4_insert_70 : decode cX4_insert 70 = .ok (.dup, 1) := by decide +kernel
theorem dX4_insert_71 : decode cX4_insert 71 = .ok (.getfield 18, 3) := by decide +kernel
theorem dX4_insert_74 : decode cX4_insert 74 = .ok (.iconst 1, 1) := by decide +kernel
theorem dX4_insert_75 : decode cX4_insert 75 = .ok (.iadd, 1) := by decide +kernel
theorem dX4_insert_76 : decode cX4_insert 76 = .ok (.putfield 18, 3) := by decide +kernel
theorem dX4_insert_79 : decode cX4_insert 79 = .ok (.return_, 1) := by decide +kernel
theorem dX4_part_0 : decode cX4_part 0 = .ok (.ldc2_w 34, 3) := by decide +kernel
theorem dX4_part_3 : decode cX4_part 3 = .ok (.lstore_n 2, 1) := by decide +kernel
theorem dX4_part_4 : decode cX4_part 4 = .ok (.iload_n 1, 1) := by decide +kernel
theorem dX4_part_5 : decode cX4_part 5 = .ok (.iconst 1, 1) := by decide +kernel
theorem dX4_part_6 : decode cX4_part 6 = .ok (.if_icmp .le 7, 3) := by decide +kernel
theorem dX4_part_9 : decode cX4_part 9 = .ok (.iconst 1, 1) := by decide +kernel
theorem dX4_part_10 : decode cX4_part 10 = .ok (.goto 7, 3) := by decide +kernel
theorem dX4_part_13 : decode cX4_part 13 = .ok (.aload_n 0, 1) := by decide +kernel
theorem dX4_part_14 : decode cX4_part 14 = .ok (.getfield 18, 3) := by decide +kernel
theorem dX4_part_17 : decode cX4_part 17 = .ok (.istore 4, 2) := by decide +kernel
theorem dX4_part_19 : decode cX4_part 19 = .ok (.iload 4, 2) := by decide +kernel
theorem dX4_part_21 : decode cX4_part 21 = .ok (.aload_n 0, 1) := by decide +kernel
theorem dX4_part_22 : decode cX4_part 22 = .ok (.iload_n 1, 1) := by decide +kernel
theorem dX4_part_23 : decode cX4_part 23 = .ok (.iconst 1, 1) := by decide +kernel
theorem dX4_part_24 : decode cX4_part 24 = .ok (.if_icmp .le 7, 3) := by decide +kernel
theorem dX4_part_27 : decode cX4_part 27 = .ok (.iconst 1, 1) := by decide +kernel
theorem dX4_part_28 : decode cX4_part 28 = .ok (.goto 4, 3) := by decide +kernel
theorem dX4_part_31 : decode cX4_part 31 = .ok (.iconst 0, 1) := by decide +kernel
theorem dX4_part_32 : decode cX4_part 32 = .ok (.invokevirtual 36, 3) := by decide +kernel
theorem dX4_part_35 : decode cX4_part 35 = .ok (.if_icmp .gt 169, 3) := by decide +kernel
theorem dX4_part_38 : decode cX4_part 38 = .ok (.iload_n 1, 1) := by decide +kernel
theorem dX4_part_39 : decode cX4_part 39 = .ok (.iconst 2, 1) := by decide +kernel
theorem dX4_part_40 : decode cX4_part 40 = .ok (.if_icmp .le 10, 3) := by decide +kernel
theorem dX4_part_43 : decode cX4_part 43 = .ok (.iload 4, 2) := by decide +kernel
theorem dX4_part_45 : decode cX4_part 45 = .ok (.iconst 1, 1) := by decide +kernel
theorem dX4_part_46 : decode cX4_part 46 = .ok (.iadd, 1) := by decide +kernel
theorem dX4_part_47 : decode cX4_part 47 = .ok (.goto 7, 3) := by decide +kernel
theorem dX4_part_50 : decode cX4_part 50 = .ok (.aload_n 0, 1) := by decide +kernel
theorem dX4_part_51 : decode cX4_part 51 = .ok (.getfield 18, 3) := by decide +kernel
theorem dX4_part_54 : decode cX4_part 54 = .ok (.istore 5, 2) := by decide +kernel
theorem dX4_part_56 : decode cX4_part 56 = .ok (.iload 5, 2) := by decide +kernel
theorem dX4_part_58 : decode cX4_part 58 = .ok (.aload_n 0, 1) := by decide +kernel
theorem dX4_part_59 : decode cX4_part 59 = .ok (.iload_n 1, 1) := by decide +kernel
theorem dX4_part_60 : decode cX4_part 60 = .ok (.iconst 2, 1) := by decide +kernel
theorem dX4_part_61 : decode cX4_part 61 = .ok (.if_icmp .le 7, 3) := by decide +kernel
theorem dX4_part_64 : decode cX4_part 64 = .ok (.iconst 1, 1) := by decide +kernel
theorem dX4_part_65 : decode cX4_part 65 = .ok (.goto 4, 3) := by decide +kernel
theorem dX4_part_68 : decode cX4_part 68 = .ok (.iconst 0, 1) := by decide +kernel
theorem dX4_part_69 : decode cX4_part 69 = .ok (.invokevirtual 36, 3) := by decide +kernel
theorem dX4_part_72 : decode cX4_part 72 = .ok (.if_icmp .gt 126, 3) := by decide +kernel
theorem dX4_part_75 : decode cX4_part 75 = .ok (.iload_n 1, 1) := by decide +kernel
theorem dX4_part_76 : decode cX4_part 76 = .ok (.iconst 3, 1) := by decide +kernel
theorem dX4_part_77 : decode cX4_part 77 = .ok (.if_icmp .le 10, 3) := by decide +kernel
theorem dX4_part_80 : decode cX4_part 80 = .ok (.iload 5, 2) := by decide +kernel
theorem dX4_part_82 : decode cX4_part 82 = .ok (.iconst 1, 1) := by decide +kernel
theorem dX4_part_83 : decode cX4_part 83 = .ok (.iadd, 1) := by decide +kernel
theorem dX4_part_84 : decode cX4_part 84 = .ok (.goto 7, 3) := by decide +kernel
theorem dX4_part_87 : decode cX4_part 87 = .ok (.aload_n 0, 1) := by decide +kernel
theorem dX4_part_88 : decode cX4_part 88 = .ok (.getfield 18, 3) := by decide +kernel
theorem dX4_part_91 : decode cX4_part 91 = .ok (.istore 6, 2) := by decide +kernel
theorem dX4_part_93 : decode cX4_part 93 = .ok (.iload 6, 2) := by decide +kernel
theorem dX4_part_95 : decode cX4_part 95 = .ok (.aload_n 0, 1) := by decide +kernel
theorem dX4_part_96 : decode cX4_part 96 = .ok (.iload_n 1, 1) := by decide +kernel
theorem dX4_part_97 : decode cX4_part 97 = .ok (.iconst 3, 1) := by decide +kernel
theorem dX4_part_98 : decode cX4_part 98 = .ok (.if_icmp .le 7, 3) := by decide +kernel
theorem dX4_part_101 : decode cX4_part 101 = .ok (.iconst 1, 1) := by decide +kernel
theorem dX4_part_102 : decode cX4_part 102 = .ok (.goto 4, 3) := by decide +kernel
theorem dX4_part_105 : decode cX4_part 105 = .ok (.iconst 0, 1) := by decide +kernel
theorem dX4_part_106 : decode cX4_part 106 = .ok (.invokevirtual 36, 3) := by decide +kernel
theorem dX4_part_109 : decode cX4_part 109 = .ok (.if_icmp .gt 83, 3) := by decide +kernel
theorem dX4_part_112 : decode cX4_part 112 = .ok (.aload_n 0, 1) := by decide +kernel
theorem dX4_part_113 : decode cX4_part 113 = .ok (.iconst 0, 1) := by decide +kernel
theorem dX4_part_114 : decode cX4_part 114 = .ok (.iload 4, 2) := by decide +kernel
theorem dX4_part_116 : decode cX4_part 116 = .ok (.invokevirtual 40, 3) := by decide +kernel
theorem dX4_part_119 : decode cX4_part 119 = .ok (.aload_n 0, 1) := by decide +kernel
theorem dX4_part_120 : decode cX4_part 120 = .ok (.iload 4, 2) := by decide +kernel
theorem dX4_part_122 : decode cX4_part 122 = .ok (.iload 5, 2) := by decide +kernel
theorem dX4_part_124 : decode cX4_part 124 = .ok (.invokevirtual 40, 3) := by decide +kernel
theorem dX4_part_127 : decode cX4_part 127 = .ok (.ladd, 1) := by decide +kernel
theorem dX4_part_128 : decode cX4_part 128 = .ok (.aload_n 0, 1) := by decide +kernel
theorem dX4_part_129 : decode cX4_part 129 = .ok (.iload 5, 2) := by decide +kernel
theorem dX4_part_131 : decode cX4_part 131 = .ok (.iload 6, 2) := by decide +kernel
theorem dX4_part_133 : decode cX4_part 133 = .ok (.invokevirtual 40, 3) := by decide +kernel
theorem dX4_part_136 : decode cX4_part 136 = .ok (.ladd, 1) := by decide +kernel
theorem dX4_part_137 : decode cX4_part 137 = .ok (.aload_n 0, 1) := by decide +kernel
theorem dX4_part_138 : decode cX4_part 138 = .ok (.iload 6, 2) := by decide +kernel
theorem dX4_part_140 : decode cX4_part 140 = .ok (.aload_n 0, 1) := by decide +kernel
theorem dX4_part_141 : decode cX4_part 141 = .ok (.getfield 18, 3) := by decide +kernel
theorem dX4_part_144 : decode cX4_part 144 = .ok (.invokevirtual 40, 3) := by decide +kernel
theorem dX4_part_147 : decode cX4_part 147 = .ok (.ladd, 1) := by decide +kernel
theorem dX4_part_148 : decode cX4_part 148 = .ok (.lstore 7, 2) := by decide +kernel
theorem dX4_part_150 : decode cX4_part 150 = .ok (.lload_n 2, 1) := by decide +kernel
theorem dX4_part_151 : decode cX4_part 151 = .ok (.ldc2_w 34, 3) := by decide +kernel
theorem dX4_part_154 : decode cX4_part 154 = .ok (.lcmp, 1) := by decide +kernel
theorem dX4_part_155 : decode cX4_part 155 = .ok (.ifCond .eq 10, 3) := by decide +kernel
theorem dX4_part_158 : decode cX4_part 158 = .ok (.lload 7, 2) := by decide +kernel
theorem dX4_part_160 : decode cX4_part 160 = .ok (.lload_n 2, 1) := by decide +kernel
theorem dX4_part_161 : decode cX4_part 161 = .ok (.lcmp, 1) := by decide +kernel
theorem dX4_part_162 : decode cX4_part 162 = .ok (.ifCond .ge 24, 3) := by decide +kernel
theorem dX4_part_165 : decode cX4_part 165 = .ok (.lload 7, 2) := by decide +kernel
theorem dX4_part_167 : decode cX4_part 167 = .ok (.lstore_n 2, 1) := by decide +kernel
theorem dX4_part_168 : decode cX4_part 168 = .ok (.aload_n 0, 1) := by decide +kernel
theorem dX4_part_169 : decode cX4_part 169 = .ok (.iload 4, 2) := by decide +kernel
theorem dX4_part_171 : decode cX4_part 171 = .ok (.putfield 44, 3) := by decide +kernel
theorem dX4_part_174 : decode cX4_part 174 = .ok (.aload_n 0, 1) := by decide +kernel
theorem dX4_part_175 : decode cX4_part 175 = .ok (.iload 5, 2) := by decide +kernel
theorem dX4_part_177 : decode cX4_part 177 = .ok (.putfield 47, 3) := by decide +kernel
theorem dX4_part_180 : decode cX4_part 180 = .ok (.aload_n 0, 1) := by decide +kernel
theorem dX4_part_181 : decode cX4_part 181 = .ok (.iload 6, 2) := by decide +kernel
theorem dX4_part_183 : decode cX4_part 183 = .ok (.putfield 50, 3) := by decide +kernel
theorem dX4_part_186 : decode cX4_part 186 = .ok (.iinc 6 1, 3) := by decide +kernel
theorem dX4_part_189 : decode cX4_part 189 = .ok (.goto (-96), 3) := by decide +kernel
theorem dX4_part_192 : decode cX4_part 192 = .ok (.iinc 5 1, 3) := by decide +kernel
theorem dX4_part_195 : decode cX4_part 195 = .ok (.goto (-139), 3) := by decide +kernel
theorem dX4_part_198 : decode cX4_part 198 = .ok (.iinc 4 1, 3) := by decide +kernel
theorem dX4_part_201 : decode cX4_part 201 = .ok (.goto (-182), 3) := by decide +kernel
theorem dX4_part_204 : decode cX4_part 204 = .ok (.lload_n 2, 1) := by decide +kernel
theorem dX4_part_205 : decode cX4_part 205 = .ok (.lreturn, 1) := by decide +kernel
theorem dX4_lastEnd_0 : decode cX4_lastEnd 0 = .ok (.iload_n 1, 1) := by decide +kernel
theorem dX4_lastEnd_1 : decode cX4_lastEnd 1 = .ok (.ifCond .eq 12, 3) := by decide +kernel
theorem dX4_lastEnd_4 : decode cX4_lastEnd 4 = .ok (.aload_n 0, 1) := by decide +kernel
theorem dX4_lastEnd_5 : decode cX4_lastEnd 5 = .ok (.getfield 18, 3) := by decide +kernel
theorem dX4_lastEnd_8 : decode cX4_lastEnd 8 = .ok (.iconst 1, 1) := by decide +kernel
theorem dX4_lastEnd_9 : decode cX4_lastEnd 9 = .ok (.isub, 1) := by decide +kernel
theorem dX4_lastEnd_10 : decode cX4_lastEnd 10 = .ok (.goto 7, 3) := by decide +kernel
theorem dX4_lastEnd_13 : decode cX4_lastEnd 13 = .ok (.aload_n 0, 1) := by decide +kernel
theorem dX4_lastEnd_14 : decode cX4_lastEnd 14 = .ok (.getfield 18, 3) := by decide +kernel
theorem dX4_lastEnd_17 : decode cX4_lastEnd 17 = .ok (.ireturn, 1) := by decide +kernel
theorem dX4_spread_0 : decode cX4_spread 0 = .ok (.iload_n 2, 1) := by decide +kernel
theorem dX4_spread_1 : decode cX4_spread 1 = .ok (.iload_n 1, 1) := by decide +kernel
theorem dX4_spread_2 : decode cX4_spread 2 = .ok (.isub, 1) := by decide +kernel
theorem dX4_spread_3 : decode cX4_spread 3 = .ok (.i2l, 1) := by decide +kernel
theorem dX4_spread_4 : decode cX4_spread 4 = .ok (.lstore_n 3, 1) := by decide +kernel
theorem dX4_spread_5 : decode cX4_spread 5 = .ok (.lload_n 3, 1) := by decide +kernel
theorem dX4_spread_6 : decode cX4_spread 6 = .ok (.lconst 1, 1) := by decide +kernel
theorem dX4_spread_7 : decode cX4_spread 7 = .ok (.lcmp, 1) := by decide +kernel
theorem dX4_spread_8 : decode cX4_spread 8 = .ok (.ifCond .ge 5, 3) := by decide +kernel
theorem dX4_spread_11 : decode cX4_spread 11 = .ok (.lconst 0, 1) := by decide +kernel
theorem dX4_spread_12 : decode cX4_spread 12 = .ok (.lreturn, 1) := by decide +kernel
theorem dX4_spread_13 : decode cX4_spread 13 = .ok (.lconst 0, 1) := by decide +kernel
theorem dX4_spread_14 : decode cX4_spread 14 = .ok (.lstore 5, 2) := by decide +kernel
theorem dX4_spread_16 : decode cX4_spread 16 = .ok (.lconst 0, 1) := by decide +kernel
theorem dX4_spread_17 : decode cX4_spread 17 = .ok (.lstore 7, 2) := by decide +kernel
theorem dX4_spread_19 : decode cX4_spread 19 = .ok (.iload_n 1, 1) := by decide +kernel
theorem dX4_spread_20 : decode cX4_spread 20 = .ok (.istore 9, 2) := by decide +kernel
theorem dX4_spread_22 : decode cX4_spread 22 = .ok (.iload 9, 2) := by decide +kernel
theorem dX4_spread_24 : decode cX4_spread 24 = .ok (.iload_n 2, 1) := by decide +kernel
theorem dX4_spread_25 : decode cX4_spread 25 = .ok (.if_icmp .ge 44, 3) := by decide +kernel
theorem dX4_spread_28 : decode cX4_spread 28 = .ok (.lload 5, 2) := by decide +kernel
theorem dX4_spread_30 : decode cX4_spread 30 = .ok (.aload_n 0, 1) := by decide +kernel
theorem dX4_spread_31 : decode cX4_spread 31 = .ok (.getfield 15, 3) := by decide +kernel
theorem dX4_spread_34 : decode cX4_spread 34 = .ok (.iload 9, 2) := by decide +kernel
theorem dX4_spread_36 : decode cX4_spread 36 = .ok (.iaload, 1) := by decide +kernel
theorem dX4_spread_37 : decode cX4_spread 37 = .ok (.i2l, 1) := by decide +kernel
theorem dX4_spread_38 : decode cX4_spread 38 = .ok (.ladd, 1) := by decide +kernel
theorem dX4_spread_39 : decode cX4_spread 39 = .ok (.lstore 5, 2) := by decide +kernel
theorem dX4_spread_41 : decode cX4_spread 41 = .ok (.lload 7, 2) := by decide +kernel
theorem dX4_spread_43 : decode cX4_spread 43 = .ok (.aload_n 0, 1) := by decide +kernel
theorem dX4_spread_44 : decode cX4_spread 44 = .ok (.getfield 15, 3) := by decide +kernel
theorem dX4_spread_47 : decode cX4_spread 47 = .ok (.iload 9, 2) := by decide +kernel
theorem dX4_spread_49 : decode cX4_spread 49 = .ok (.iaload, 1) := by decide +kernel
theorem dX4_spread_50 : decode cX4_spread 50 = .ok (.i2l, 1) := by decide +kernel
theorem dX4_spread_51 : decode cX4_spread 51 = .ok (.aload_n 0, 1) := by decide +kernel
theorem dX4_spread_52 : decode cX4_spread 52 = .ok (.getfield 15, 3) := by decide +kernel
theorem dX4_spread_55 : decode cX4_spread 55 = .ok (.iload 9, 2) := by decide +kernel
theorem dX4_spread_57 : decode cX4_spread 57 = .ok (.iaload, 1) := by decide +kernel
theorem dX4_spread_58 : decode cX4_spread 58 = .ok (.i2l, 1) := by decide +kernel
theorem dX4_spread_59 : decode cX4_spread 59 = .ok (.lmul, 1) := by decide +kernel
theorem dX4_spread_60 : decode cX4_spread 60 = .ok (.ladd, 1) := by decide +kernel
theorem dX4_spread_61 : decode cX4_spread 61 = .ok (.lstore 7, 2) := by decide +kernel
theorem dX4_spread_63 : decode cX4_spread 63 = .ok (.iinc 9 1, 3) := by decide +kernel
theorem dX4_spread_66 : decode cX4_spread 66 = .ok (.goto (-44), 3) := by decide +kernel
theorem dX4_spread_69 : decode cX4_spread 69 = .ok (.ldc2_w 53, 3) := by decide +kernel
theorem dX4_spread_72 : decode cX4_spread 72 = .ok (.lload_n 3, 1) := by decide +kernel
theorem dX4_spread_73 : decode cX4_spread 73 = .ok (.lload 7, 2) := by decide +kernel
theorem dX4_spread_75 : decode cX4_spread 75 = .ok (.lmul, 1) := by decide +kernel
theorem dX4_spread_76 : decode cX4_spread 76 = .ok (.lload 5, 2) := by decide +kernel
theorem dX4_spread_78 : decode cX4_spread 78 = .ok (.lload 5, 2) := by decide +kernel
theorem dX4_spread_80 : decode cX4_spread 80 = .ok (.lmul, 1) := by decide +kernel
theorem dX4_spread_81 : decode cX4_spread 81 = .ok (.lsub, 1) := by decide +kernel
theorem dX4_spread_82 : decode cX4_spread 82 = .ok (.lmul, 1) := by decide +kernel
theorem dX4_spread_83 : decode cX4_spread 83 = .ok (.lload_n 3, 1) := by decide +kernel
theorem dX4_spread_84 : decode cX4_spread 84 = .ok (.ldiv, 1) := by decide +kernel
theorem dX4_spread_85 : decode cX4_spread 85 = .ok (.lreturn, 1) := by decide +kernel
theorem dX4_groupOf_0 : decode cX4_groupOf 0 = .ok (.iconst 0, 1) := by decide +kernel
theorem dX4_groupOf_1 : decode cX4_groupOf 1 = .ok (.istore_n 2, 1) := by decide +kernel
theorem dX4_groupOf_2 : decode cX4_groupOf 2 = .ok (.iload_n 2, 1) := by decide +kernel
theorem dX4_groupOf_3 : decode cX4_groupOf 3 = .ok (.aload_n 0, 1) := by decide +kernel
theorem dX4_groupOf_4 : decode cX4_groupOf 4 = .ok (.getfield 18, 3) := by decide +kernel
theorem dX4_groupOf_7 : decode cX4_groupOf 7 = .ok (.iconst 1, 1) := by decide +kernel
theorem dX4_groupOf_8 : decode cX4_groupOf 8 = .ok (.isub, 1) := by decide +kernel
theorem dX4_groupOf_9 : decode cX4_groupOf 9 = .ok (.if_icmp .ge 19, 3) := by decide +kernel
theorem dX4_groupOf_12 : decode cX4_groupOf 12 = .ok (.aload_n 0, 1) := by decide +kernel
theorem dX4_groupOf_13 : decode cX4_groupOf 13 = .ok (.getfield 9, 3) := by decide +kernel
theorem dX4_groupOf_16 : decode cX4_groupOf 16 = .ok (.iload_n 2, 1) := by decide +kernel
theorem dX4_groupOf_17 : decode cX4_groupOf 17 = .ok (.iaload, 1) := by decide +kernel
theorem dX4_groupOf_18 : decode cX4_groupOf 18 = .ok (.iload_n 1, 1) := by decide +kernel
theorem dX4_groupOf_19 : decode cX4_groupOf 19 = .ok (.if_icmp .eq 9, 3) := by decide +kernel
theorem dX4_groupOf_22 : decode cX4_groupOf 22 = .ok (.iinc 2 1, 3) := by decide +kernel
theorem dX4_groupOf_25 : decode cX4_groupOf 25 = .ok (.goto (-23), 3) := by decide +kernel
theorem dX4_groupOf_28 : decode cX4_groupOf 28 = .ok (.iload_n 2, 1) := by decide +kernel
theorem dX4_groupOf_29 : decode cX4_groupOf 29 = .ok (.aload_n 0, 1) := by decide +kernel
theorem dX4_groupOf_30 : decode cX4_groupOf 30 = .ok (.getfield 44, 3) := by decide +kernel
theorem dX4_groupOf_33 : decode cX4_groupOf 33 = .ok (.if_icmp .lt 7, 3) := by decide +kernel
theorem dX4_groupOf_36 : decode cX4_groupOf 36 = .ok (.iconst 1, 1) := by decide +kernel
theorem dX4_groupOf_37 : decode cX4_groupOf 37 = .ok (.goto 4, 3) := by decide +kernel
theorem dX4_groupOf_40 : decode cX4_groupOf 40 = .ok (.iconst 0, 1) := by decide +kernel
theorem dX4_groupOf_41 : decode cX4_groupOf 41 = .ok (.iload_n 2, 1) := by decide +kernel
theorem dX4_groupOf_42 : decode cX4_groupOf 42 = .ok (.aload_n 0, 1) := by decide +kernel
theorem dX4_groupOf_43 : decode cX4_groupOf 43 = .ok (.getfield 47, 3) := by decide +kernel
theorem dX4_groupOf_46 : decode cX4_groupOf 46 = .ok (.if_icmp .lt 7, 3) := by decide +kernel
theorem dX4_groupOf_49 : decode cX4_groupOf 49 = .ok (.iconst 1, 1) := by decide +kernel
theorem dX4_groupOf_50 : decode cX4_groupOf 50 = .ok (.goto 4, 3) := by decide +kernel
theorem dX4_groupOf_53 : decode cX4_groupOf 53 = .ok (.iconst 0, 1) := by decide +kernel
theorem dX4_groupOf_54 : decode cX4_groupOf 54 = .ok (.iadd, 1) := by decide +kernel
theorem dX4_groupOf_55 : decode cX4_groupOf 55 = .ok (.iload_n 2, 1) := by decide +kernel
theorem dX4_groupOf_56 : decode cX4_groupOf 56 = .ok (.aload_n 0, 1) := by decide +kernel
theorem dX4_groupOf_57 : decode cX4_groupOf 57 = .ok (.getfield 50, 3) := by decide +kernel
theorem dX4_groupOf_60 : decode cX4_groupOf 60 = .ok (.if_icmp .lt 7, 3) := by decide +kernel
theorem dX4_groupOf_63 : decode cX4_groupOf 63 = .ok (.iconst 1, 1) := by decide +kernel
theorem dX4_groupOf_64 : decode cX4_groupOf 64 = .ok (.goto 4, 3) := by decide +kernel
theorem dX4_groupOf_67 : decode cX4_groupOf 67 = .ok (.iconst 0, 1) := by decide +kernel
theorem dX4_groupOf_68 : decode cX4_groupOf 68 = .ok (.iadd, 1) := by decide +kernel
theorem dX4_groupOf_69 : decode cX4_groupOf 69 = .ok (.ireturn, 1) := by decide +kernel
theorem dX5_init_0 : decode cX5_init 0 = .ok (.aload_n 0, 1) := by decide +kernel
theorem dX5_init_1 : decode cX5_init 1 = .ok (.invokespecial 3, 3) := by decide +kernel
theorem dX5_init_4 : decode cX5_init 4 = .ok (.aload_n 0, 1) := by decide +kernel
theorem dX5_init_5 : decode cX5_init 5 = .ok (.iconst 2, 1) := by decide +kernel
theorem dX5_init_6 : decode cX5_init 6 = .ok (.putfield 9, 3) := by decide +kernel
theorem dX5_init_9 : decode cX5_init 9 = .ok (.aload_n 0, 1) := by decide +kernel
theorem dX5_init_10 : decode cX5_init 10 = .ok (.bipush 20, 2) := by decide +kernel
theorem dX5_init_12 : decode cX5_init 12 = .ok (.putfield 15, 3) := by decide +kernel
theorem dX5_init_15 : decode cX5_init 15 = .ok (.aload_n 0, 1) := by decide +kernel
theorem dX5_init_16 : decode cX5_init 16 = .ok (.iconst 3, 1) := by decide +kernel
theorem dX5_init_17 : decode cX5_init 17 = .ok (.putfield 18, 3) := by decide +kernel
theorem dX5_init_20 : decode cX5_init 20 = .ok (.return_, 1) := by decide +kernel
theorem dX5_write_0 : decode cX5_write 0 = .ok (.aload_n 0, 1) := by decide +kernel
theorem dX5_write_1 : decode cX5_write 1 = .ok (.iconst 2, 1) := by decide +kernel
theorem dX5_write_2 : decode cX5_write 2 = .ok (.putfield 9, 3) := by decide +kernel
theorem dX5_write_5 : decode cX5_write 5 = .ok (.aload_n 0, 1) := by decide +kernel
theorem dX5_write_6 : decode cX5_write 6 = .ok (.bipush 20, 2) := by decide +kernel
theorem dX5_write_8 : decode cX5_write 8 = .ok (.putfield 15, 3) := by decide +kernel
theorem dX5_write_11 : decode cX5_write 11 = .ok (.aload_n 0, 1) := by decide +kernel
theorem dX5_write_12 : decode cX5_write 12 = .ok (.iconst 3, 1) := by decide +kernel
theorem dX5_write_13 : decode cX5_write 13 = .ok (.putfield 18, 3) := by decide +kernel
theorem dX5_write_16 : decode cX5_write 16 = .ok (.aload_n 0, 1) := by decide +kernel
theorem dX5_write_17 : decode cX5_write 17 = .ok (.iconst 0, 1) := by decide +kernel
theorem dX5_write_18 : decode cX5_write 18 = .ok (.putfield 21, 3) := by decide +kernel
theorem dX5_write_21 : decode cX5_write 21 = .ok (.iconst 0, 1) := by decide +kernel
theorem dX5_write_22 : decode cX5_write 22 = .ok (.istore_n 2, 1) := by decide +kernel
theorem dX5_write_23 : decode cX5_write 23 = .ok (.iload_n 2, 1) := by decide +kernel
theorem dX5_write_24 : decode cX5_write 24 = .ok (.sipush 500, 3) := by decide +kernel
theorem dX5_write_27 : decode cX5_write 27 = .ok (.if_icmp .ge 25, 3) := by decide +kernel
theorem dX5_write_30 : decode cX5_write 30 = .ok (.aload_n 1, 1) := by decide +kernel
theorem dX5_write_31 : decode cX5_write 31 = .ok (.invokevirtual 24, 3) := by decide +kernel
theorem dX5_write_34 : decode cX5_write 34 = .ok (.ifCond .eq 18, 3) := by decide +kernel
theorem dX5_write_37 : decode cX5_write 37 = .ok (.aload_n 0, 1) := by decide +kernel
theorem dX5_write_38 : decode cX5_write 38 = .ok (.aload_n 1, 1) := by decide +kernel
theorem dX5_write_39 : decode cX5_write 39 = .ok (.invokevirtual 30, 3) := by decide +kernel
theorem dX5_write_42 : decode cX5_write 42 = .ok (.aload_n 1, 1) := by decide +kernel
theorem dX5_write_43 : decode cX5_write 43 = .ok (.invokevirtual 34, 3) := by decide +kernel
theorem dX5_write_46 : decode cX5_write 46 = .ok (.iinc 2 1, 3) := by decide +kernel
theorem dX5_write_49 : decode cX5_write 49 = .ok (.goto (-26), 3) := by decide +kernel
theorem dX5_write_52 : decode cX5_write 52 = .ok (.return_, 1) := by decide +kernel
theorem dX5_writeLine_0 : decode cX5_writeLine 0 = .ok (.aload_n 1, 1) := by decide +kernel
theorem dX5_writeLine_1 : decode cX5_writeLine 1 = .ok (.ldc 37, 2) := by decide +kernel
theorem dX5_writeLine_3 : decode cX5_writeLine 3 = .ok (.invokevirtual 39, 3) := by decide +kernel
theorem dX5_writeLine_6 : decode cX5_writeLine 6 = .ok (.ifCond .eq 23, 3) := by decide +kernel
theorem dX5_writeLine_9 : decode cX5_writeLine 9 = .ok (.aload_n 0, 1) := by decide +kernel
theorem dX5_writeLine_10 : decode cX5_writeLine 10 = .ok (.aload_n 1, 1) := by decide +kernel
theorem dX5_writeLine_11 : decode cX5_writeLine 11 = .ok (.iconst 1, 1) := by decide +kernel
theorem dX5_writeLine_12 : decode cX5_writeLine 12 = .ok (.invokevirtual 43, 3) := by decide +kernel
theorem dX5_writeLine_15 : decode cX5_writeLine 15 = .ok (.aload_n 0, 1) := by decide +kernel
theorem dX5_writeLine_16 : decode cX5_writeLine 16 = .ok (.aload_n 1, 1) := by decide +kernel
theorem dX5_writeLine_17 : decode cX5_writeLine 17 = .ok (.iconst 1, 1) := by decide +kernel
theorem dX5_writeLine_18 : decode cX5_writeLine 18 = .ok (.bipush 50, 2) := by decide +kernel
theorem dX5_writeLine_20 : decode cX5_writeLine 20 = .ok (.invokevirtual 47, 3) := by decide +kernel
theorem dX5_writeLine_23 : decode cX5_writeLine 23 = .ok (.putfield 9, 3) := by decide +kernel
theorem dX5_writeLine_26 : decode cX5_writeLine 26 = .ok (.goto 70, 3) := by decide +kernel
theorem dX5_writeLine_29 : decode cX5_writeLine 29 = .ok (.aload_n 1, 1) := by decide +kernel
theorem dX5_writeLine_30 : decode cX5_writeLine 30 = .ok (.ldc 51, 2) := by decide +kernel
theorem dX5_writeLine_32 : decode cX5_writeLine 32 = .ok (.invokevirtual 39, 3) := by decide +kernel
theorem dX5_writeLine_35 : decode cX5_writeLine 35 = .ok (.ifCond .eq 23, 3) := by decide +kernel
theorem dX5_writeLine_38 : decode cX5_writeLine 38 = .ok (.aload_n 0, 1) := by decide +kernel
theorem dX5_writeLine_39 : decode cX5_writeLine 39 = .ok (.aload_n 1, 1) := by decide +kernel
theorem dX5_writeLine_40 : decode cX5_writeLine 40 = .ok (.iconst 2, 1) := by decide +kernel
theorem dX5_writeLine_41 : decode cX5_writeLine 41 = .ok (.invokevirtual 43, 3) := by decide +kernel
theorem dX5_writeLine_44 : decode cX5_writeLine 44 = .ok (.aload_n 0, 1) := by decide +kernel
theorem dX5_writeLine_45 : decode cX5_writeLine 45 = .ok (.aload_n 1, 1) := by decide +kernel
theorem dX5_writeLine_46 : decode cX5_writeLine 46 = .ok (.iconst 0, 1) := by decide +kernel
theorem dX5_writeLine_47 : decode cX5_writeLine 47 = .ok (.bipush 90, 2) := by decide +kernel
theorem dX5_writeLine_49 : decode cX5_writeLine 49 = .ok (.invokevirtual 47, 3) := by decide +kernel
theorem dX5_writeLine_52 : decode cX5_writeLine 52 = .ok (.putfield 15, 3) := by decide +kernel
theorem dX5_writeLine_55 : decode cX5_writeLine 55 = .ok (.goto 41, 3) := by decide +kernel
theorem dX5_writeLine_58 : decode cX5_writeLine 58 = .ok (.aload_n 1, 1) := by decide +kernel
theorem dX5_writeLine_59 : decode cX5_writeLine 59 = .ok (.ldc 52, 2) := by decide +kernel
theorem dX5_writeLine_61 : decode cX5_writeLine 61 = .ok (.invokevirtual 39, 3) := by decide +kernel
theorem dX5_writeLine_64 : decode cX5_writeLine 64 = .ok (.ifCond .eq 23, 3) := by decide +kernel
theorem dX5_writeLine_67 : decode cX5_writeLine 67 = .ok (.aload_n 0, 1) := by decide +kernel
theorem dX5_writeLine_68 : decode cX5_writeLine 68 = .ok (.aload_n 1, 1) := by decide +kernel
theorem dX5_writeLine_69 : decode cX5_writeLine 69 = .ok (.iconst 4, 1) := by decide +kernel
theorem dX5_writeLine_70 : decode cX5_writeLine 70 = .ok (.invokevirtual 43, 3) := by decide +kernel
theorem dX5_writeLine_73 : decode cX5_writeLine 73 = .ok (.aload_n 0, 1) := by decide +kernel
theorem dX5_writeLine_74 : decode cX5_writeLine 74 = .ok (.aload_n 1, 1) := by decide +kernel
theorem dX5_writeLine_75 : decode cX5_writeLine 75 = .ok (.iconst 0, 1) := by decide +kernel
theorem dX5_writeLine_76 : decode cX5_writeLine 76 = .ok (.bipush 50, 2) := by decide +kernel
theorem dX5_writeLine_78 : decode cX5_writeLine 78 = .ok (.invokevirtual 47, 3) := by decide +kernel
theorem dX5_writeLine_81 : decode cX5_writeLine 81 = .ok (.putfield 18, 3) := by decide +kernel
theorem dX5_writeLine_84 : decode cX5_writeLine 84 = .ok (.goto 12, 3) := by decide +kernel
theorem dX5_writeLine_87 : decode cX5_writeLine 87 = .ok (.aload_n 1, 1) := by decide +kernel
theorem dX5_writeLine_88 : decode cX5_writeLine 88 = .ok (.iconst 1, 1) := by decide +kernel
theorem dX5_writeLine_89 : decode cX5_writeLine 89 = .ok (.aload_n 1, 1) := by decide +kernel
theorem dX5_writeLine_90 : decode cX5_writeLine 90 = .ok (.getfield 53, 3) := by decide +kernel
theorem dX5_writeLine_93 : decode cX5_writeLine 93 = .ok (.invokevirtual 56, 3) := by decide +kernel
theorem dX5_writeLine_96 : decode cX5_writeLine 96 = .ok (.return_, 1) := by decide +kernel
theorem dX5_once_0 : decode cX5_once 0 = .ok (.aload_n 0, 1) := by decide +kernel
theorem dX5_once_1 : decode cX5_once 1 = .ok (.getfield 21, 3) := by decide +kernel
theorem dX5_once_4 : decode cX5_once 4 = .ok (.iload_n 2, 1) := by decide +kernel
theorem dX5_once_5 : decode cX5_once 5 = .ok (.iand, 1) := by decide +kernel
theorem dX5_once_6 : decode cX5_once 6 = .ok (.ifCond .eq 12, 3) := by decide +kernel
theorem dX5_once_9 : decode cX5_once 9 = .ok (.aload_n 1, 1) := by decide +kernel
theorem dX5_once_10 : decode cX5_once 10 = .ok (.iconst 5, 1) := by decide +kernel
theorem dX5_once_11 : decode cX5_once 11 = .ok (.aload_n 1, 1) := by decide +kernel
theorem dX5_once_12 : decode cX5_once 12 = .ok (.getfield 60, 3) := by decide +kernel
theorem dX5_once_15 : decode cX5_once 15 = .ok (.invokevirtual 56, 3) := by decide +kernel
theorem dX5_once_18 : decode cX5_once 18 = .ok (.aload_n 0, 1) := by decide +kernel
theorem dX5_once_19 : decode cX5_once 19 = .ok (.dup, 1) := by decide +kernel
theorem dX5_once_20 : decode cX5_once 20 = .ok (.getfield 21, 3) := by decide +kernel
theorem dX5_once_23 : decode cX5_once 23 = .ok (.iload_n 2, 1) := by decide +kernel
theorem dX5_once_24 : decode cX5_once 24 = .ok (.ior, 1) := by decide +kernel
theorem dX5_once_25 : decode cX5_once 25 = .ok (.putfield 21, 3) := by decide +kernel
theorem dX5_once_28 : decode cX5_once 28 = .ok (.return_, 1) := by decide +kernel
theorem dX5_through_0 : decode cX5_through 0 = .ok (.iload_n 1, 1) := by decide +kernel
theorem dX5_through_1 : decode cX5_through 1 = .ok (.i2l, 1) := by decide +kernel
theorem dX5_through_2 : decode cX5_through 2 = .ok (.aload_n 0, 1) := by decide +kernel
theorem dX5_through_3 : decode cX5_through 3 = .ok (.getfield 15, 3) := by decide +kernel
theorem dX5_through_6 : decode cX5_through 6 = .ok (.i2l, 1) := by decide +kernel
theorem dX5_through_7 : decode cX5_through 7 = .ok (.lmul, 1) := by decide +kernel
theorem dX5_through_8 : decode cX5_through 8 = .ok (.ldc2_w 63, 3) := by decide +kernel
theorem dX5_through_11 : decode cX5_through 11 = .ok (.ldiv, 1) := by decide +kernel
theorem dX5_through_12 : decode cX5_through 12 = .ok (.l2i, 1) := by decide +kernel
theorem dX5_through_13 : decode cX5_through 13 = .ok (.ireturn, 1) := by decide +kernel
theorem dX6_init_0 : decode cX6_init 0 = .ok (.aload_n 0, 1) := by decide +kernel
theorem dX6_init_1 : decode cX6_init 1 = .ok (.invokespecial 3, 3) := by decide +kernel
theorem dX6_init_4 : decode cX6_init 4 = .ok (.aload_n 0, 1) := by decide +kernel
theorem dX6_init_5 : decode cX6_init 5 = .ok (.bipush 40, 2) := by decide +kernel
theorem dX6_init_7 : decode cX6_init 7 = .ok (.newarray .int, 2) := by decide +kernel
theorem dX6_init_9 : decode cX6_init 9 = .ok (.putfield 9, 3) := by decide +kernel
theorem dX6_init_12 : decode cX6_init 12 = .ok (.aload_n 0, 1) := by decide +kernel
theorem dX6_init_13 : decode cX6_init 13 = .ok (.bipush 40, 2) := by decide +kernel
theorem dX6_init_15 : decode cX6_init 15 = .ok (.newarray .int, 2) := by decide +kernel
theorem dX6_init_17 : decode cX6_init 17 = .ok (.putfield 15, 3) := by decide +kernel
theorem dX6_init_20 : decode cX6_init 20 = .ok (.return_, 1) := by decide +kernel
theorem dX6_fill_0 : decode cX6_fill 0 = .ok (.aload_n 0, 1) := by decide +kernel
theorem dX6_fill_1 : decode cX6_fill 1 = .ok (.aload_n 1, 1) := by decide +kernel
theorem dX6_fill_2 : decode cX6_fill 2 = .ok (.getfield 18, 3) := by decide +kernel
theorem dX6_fill_5 : decode cX6_fill 5 = .ok (.putfield 24, 3) := by decide +kernel
theorem dX6_fill_8 : decode cX6_fill 8 = .ok (.iconst 0, 1) := by decide +kernel
theorem dX6_fill_9 : decode cX6_fill 9 = .ok (.istore_n 3, 1) := by decide +kernel
theorem dX6_fill_10 : decode cX6_fill 10 = .ok (.iload_n 3, 1) := by decide +kernel
theorem dX6_fill_11 : decode cX6_fill 11 = .ok (.aload_n 0, 1) := by decide +kernel
theorem dX6_fill_12 : decode cX6_fill 12 = .ok (.getfield 24, 3) := by decide +kernel
theorem dX6_fill_15 : decode cX6_fill 15 = .ok (.if_icmp .ge 50, 3) := by decide +kernel
theorem dX6_fill_18 : decode cX6_fill 18 = .ok (.aload_n 0, 1) := by decide +kernel
theorem dX6_fill_19 : decode cX6_fill 19 = .ok (.getfield 9, 3) := by decide +kernel
theorem dX6_fill_22 : decode cX6_fill 22 = .ok (.iload_n 3, 1) := by decide +kernel
theorem dX6_fill_23 : decode cX6_fill 23 = .ok (.aload_n 1, 1) := by decide +kernel
theorem dX6_fill_24 : decode cX6_fill 24 = .ok (.aload_n 1, 1) := by decide +kernel
theorem dX6_fill_25 : decode cX6_fill 25 = .ok (.getfield 25, 3) := by decide +kernel
theorem dX6_fill_28 : decode cX6_fill 28 = .ok (.iload_n 3, 1) := by decide +kernel
theorem dX6_fill_29 : decode cX6_fill 29 = .ok (.invokevirtual 29, 3) := by decide +kernel
theorem dX6_fill_32 : decode cX6_fill 32 = .ok (.aload_n 1, 1) := by decide +kernel
theorem dX6_fill_33 : decode cX6_fill 33 = .ok (.getfield 33, 3) := by decide +kernel
theorem dX6_fill_36 : decode cX6_fill 36 = .ok (.iload_n 3, 1) := by decide +kernel
theorem dX6_fill_37 : decode cX6_fill 37 = .ok (.iaload, 1) := by decide +kernel
theorem dX6_fill_38 : decode cX6_fill 38 = .ok (.isub, 1) := by decide +kernel
theorem dX6_fill_39 : decode cX6_fill 39 = .ok (.iastore, 1) := by decide +kernel
theorem dX6_fill_40 : decode cX6_fill 40 = .ok (.aload_n 0, 1) := by decide +kernel
theorem dX6_fill_41 : decode cX6_fill 41 = .ok (.getfield 15, 3) := by decide +kernel
theorem dX6_fill_44 : decode cX6_fill 44 = .ok (.iload_n 3, 1) := by decide +kernel
theorem dX6_fill_45 : decode cX6_fill 45 = .ok (.aload_n 2, 1) := by decide +kernel
theorem dX6_fill_46 : decode cX6_fill 46 = .ok (.aload_n 1, 1) := by decide +kernel
theorem dX6_fill_47 : decode cX6_fill 47 = .ok (.aload_n 1, 1) := by decide +kernel
theorem dX6_fill_48 : decode cX6_fill 48 = .ok (.getfield 25, 3) := by decide +kernel
theorem dX6_fill_51 : decode cX6_fill 51 = .ok (.iload_n 3, 1) := by decide +kernel
theorem dX6_fill_52 : decode cX6_fill 52 = .ok (.invokevirtual 36, 3) := by decide +kernel
theorem dX6_fill_55 : decode cX6_fill 55 = .ok (.invokevirtual 39, 3) := by decide +kernel
theorem dX6_fill_58 : decode cX6_fill 58 = .ok (.iastore, 1) := by decide +kernel
theorem dX6_fill_59 : decode cX6_fill 59 = .ok (.iinc 3 1, 3) := by decide +kernel
theorem dX6_fill_62 : decode cX6_fill 62 = .ok (.goto (-52), 3) := by decide +kernel
theorem dX6_fill_65 : decode cX6_fill 65 = .ok (.return_, 1) := by decide +kernel
theorem dX6_want_0 : decode cX6_want 0 = .ok (.iconst 0, 1) := by decide +kernel
theorem dX6_want_1 : decode cX6_want 1 = .ok (.istore_n 1, 1) := by decide +kernel
theorem dX6_want_2 : decode cX6_want 2 = .ok (.iconst 0, 1) := by decide +kernel
theorem dX6_want_3 : decode cX6_want 3 = .ok (.istore_n 2, 1) := by decide +kernel
theorem dX6_want_4 : decode cX6_want 4 = .ok (.iload_n 2, 1) := by decide +kernel
theorem dX6_want_5 : decode cX6_want 5 = .ok (.aload_n 0, 1) := by decide +kernel
theorem dX6_want_6 : decode cX6_want 6 = .ok (.getfield 24, 3) := by decide +kernel
theorem dX6_want_9 : decode cX6_want 9 = .ok (.if_icmp .ge 20, 3) := by decide +kernel
theorem dX6_want_12 : decode cX6_want 12 = .ok (.iload_n 1, 1) := by decide +kernel
theorem dX6_want_13 : decode cX6_want 13 = .ok (.aload_n 0, 1) := by decide +kernel
theorem dX6_want_14 : decode cX6_want 14 = .ok (.iload_n 2, 1) := by decide +kernel
theorem dX6_want_15 : decode cX6_want 15 = .ok (.iconst 1, 1) := by decide +kernel
theorem dX6_want_16 : decode cX6_want 16 = .ok (.isub, 1) := by decide +kernel
theorem dX6_want_17 : decode cX6_want 17 = .ok (.iload_n 2, 1) := by decide +kernel
theorem dX6_want_18 : decode cX6_want 18 = .ok (.invokevirtual 45, 3) := by decide +kernel
theorem dX6_want_21 : decode cX6_want 21 = .ok (.iadd, 1) := by decide +kernel
theorem dX6_want_22 : decode cX6_want 22 = .ok (.istore_n 1, 1) := by decide +kernel
theorem dX6_want_23 : decode cX6_want 23 = .ok (.iinc 2 1, 3) := by decide +kernel
theorem dX6_want_26 : decode cX6_want 26 = .ok (.goto (-22), 3) := by decide +kernel
theorem dX6_want_29 : decode cX6_want 29 = .ok (.iload_n 1, 1) := by decide +kernel
theorem dX6_want_30 : decode cX6_want 30 = .ok (.ireturn, 1) := by decide +kernel
theorem dX6_findMove_0 : decode cX6_findMove 0 = .ok (.aload_n 0, 1) := by decide +kernel
theorem dX6_findMove_1 : decode cX6_findMove 1 = .ok (.invokevirtual 49, 3) := by decide +kernel
theorem dX6_findMove_4 : decode cX6_findMove 4 = .ok (.istore_n 1, 1) := by decide +kernel
theorem dX6_findMove_5 : decode cX6_findMove 5 = .ok (.iload_n 1, 1) := by decide +kernel
theorem dX6_findMove_6 : decode cX6_findMove 6 = .ok (.istore_n 2, 1) := by decide +kernel
theorem dX6_findMove_7 : decode cX6_findMove 7 = .ok (.aload_n 0, 1) := by decide +kernel
theorem dX6_findMove_8 : decode cX6_findMove 8 = .ok (.iconst (-1), 1) := by decide +kernel
theorem dX6_findMove_9 : decode cX6_findMove 9 = .ok (.putfield 53, 3) := by decide +kernel
theorem dX6_findMove_12 : decode cX6_findMove 12 = .ok (.aload_n 0, 1) := by decide +kernel
theorem dX6_findMove_13 : decode cX6_findMove 13 = .ok (.iconst (-1), 1) := by decide +kernel
theorem dX6_findMove_14 : decode cX6_findMove 14 = .ok (.putfield 56, 3) := by decide +kernel
theorem dX6_findMove_17 : decode cX6_findMove 17 = .ok (.iconst 0, 1) := by decide +kernel
theorem dX6_findMove_18 : decode cX6_findMove 18 = .ok (.istore_n 3, 1) := by decide +kernel
theorem dX6_findMove_19 : decode cX6_findMove 19 = .ok (.iload_n 3, 1) := by decide +kernel
theorem dX6_findMove_20 : decode cX6_findMove 20 = .ok (.aload_n 0, 1) := by decide +kernel
theorem dX6_findMove_21 : decode cX6_findMove 21 = .ok (.getfield 24, 3) := by decide +kernel
theorem dX6_findMove_24 : decode cX6_findMove 24 = .ok (.if_icmp .ge 97, 3) := by decide +kernel
theorem dX6_findMove_27 : decode cX6_findMove 27 = .ok (.iload_n 1, 1) := by decide +kernel
theorem dX6_findMove_28 : decode cX6_findMove 28 = .ok (.aload_n 0, 1) := by decide +kernel
theorem dX6_findMove_29 : decode cX6_findMove 29 = .ok (.iload_n 3, 1) := by decide +kernel
theorem dX6_findMove_30 : decode cX6_findMove 30 = .ok (.iconst 1, 1) := by decide +kernel
theorem dX6_findMove_31 : decode cX6_findMove 31 = .ok (.isub, 1) := by decide +kernel
theorem dX6_findMove_32 : decode cX6_findMove 32 = .ok (.iload_n 3, 1) := by decide +kernel
theorem dX6_findMove_33 : decode cX6_findMove 33 = .ok (.invokevirtual 45, 3) := by decide +kernel
theorem dX6_findMove_36 : decode cX6_findMove 36 = .ok (.isub, 1) := by decide +kernel
theorem dX6_findMove_37 : decode cX6_findMove 37 = .ok (.aload_n 0, 1) := by decide +kernel
theorem dX6_findMove_38 : decode cX6_findMove 38 = .ok (.iload_n 3, 1) := by decide +kernel
theorem dX6_findMove_39 : decode cX6_findMove 39 = .ok (.iload_n 3, 1) := by decide +kernel
theorem dX6_findMove_40 : decode cX6_findMove 40 = .ok (.iconst 1, 1) := by decide +kernel
theorem dX6_findMove_41 : decode cX6_findMove 41 = .ok (.iadd, 1) := by decide +kernel
theorem dX6_findMove_42 : decode cX6_findMove 42 = .ok (.invokevirtual 45, 3) := by decide +kernel
theorem dX6_findMove_45 : decode cX6_findMove 45 = .ok (.isub, 1) := by decide +kernel
theorem dX6_findMove_46 : decode cX6_findMove 46 = .ok (.aload_n 0, 1) := by decide +kernel
theorem dX6_findMove_47 : decode cX6_findMove 47 = .ok (.iload_n 3, 1) := by decide +kernel
theorem dX6_findMove_48 : decode cX6_findMove 48 = .ok (.iconst 1, 1) := by decide +kernel
theorem dX6_findMove_49 : decode cX6_findMove 49 = .ok (.isub, 1) := by decide +kernel
theorem dX6_findMove_50 : decode cX6_findMove 50 = .ok (.iload_n 3, 1) := by decide +kernel
theorem dX6_findMove_51 : decode cX6_findMove 51 = .ok (.iconst 1, 1) := by decide +kernel
theorem dX6_findMove_52 : decode cX6_findMove 52 = .ok (.iadd, 1) := by decide +kernel
theorem dX6_findMove_53 : decode cX6_findMove 53 = .ok (.invokevirtual 45, 3) := by decide +kernel
theorem dX6_findMove_56 : decode cX6_findMove 56 = .ok (.iadd, 1) := by decide +kernel
theorem dX6_findMove_57 : decode cX6_findMove 57 = .ok (.istore 4, 2) := by decide +kernel
theorem dX6_findMove_59 : decode cX6_findMove 59 = .ok (.iconst 0, 1) := by decide +kernel
theorem dX6_findMove_60 : decode cX6_findMove 60 = .ok (.istore 5, 2) := by decide +kernel
theorem dX6_findMove_62 : decode cX6_findMove 62 = .ok (.iload 5, 2) := by decide +kernel
theorem dX6_findMove_64 : decode cX6_findMove 64 = .ok (.aload_n 0, 1) := by decide +kernel
theorem dX6_findMove_65 : decode cX6_findMove 65 = .ok (.getfield 24, 3) := by decide +kernel
theorem dX6_findMove_68 : decode cX6_findMove 68 = .ok (.if_icmp .ge 47, 3) := by decide +kernel
theorem dX6_findMove_71 : decode cX6_findMove 71 = .ok (.iload 4, 2) := by decide +kernel
theorem dX6_findMove_73 : decode cX6_findMove 73 = .ok (.aload_n 0, 1) := by decide +kernel
theorem dX6_findMove_74 : decode cX6_findMove 74 = .ok (.iload_n 3, 1) := by decide +kernel
theorem dX6_findMove_75 : decode cX6_findMove 75 = .ok (.iload 5, 2) := by decide +kernel
theorem dX6_findMove_77 : decode cX6_findMove 77 = .ok (.invokevirtual 59, 3) := by decide +kernel
theorem dX6_findMove_80 : decode cX6_findMove 80 = .ok (.iadd, 1) := by decide +kernel
theorem dX6_findMove_81 : decode cX6_findMove 81 = .ok (.istore 6, 2) := by decide +kernel
theorem dX6_findMove_83 : decode cX6_findMove 83 = .ok (.iload 5, 2) := by decide +kernel
theorem dX6_findMove_85 : decode cX6_findMove 85 = .ok (.iload_n 3, 1) := by decide +kernel
theorem dX6_findMove_86 : decode cX6_findMove 86 = .ok (.if_icmp .eq 23, 3) := by decide +kernel
theorem dX6_findMove_89 : decode cX6_findMove 89 = .ok (.iload 6, 2) := by decide +kernel
theorem dX6_findMove_91 : decode cX6_findMove 91 = .ok (.iload_n 2, 1) := by decide +kernel
theorem dX6_findMove_92 : decode cX6_findMove 92 = .ok (.if_icmp .ge 17, 3) := by decide +kernel
theorem dX6_findMove_95 : decode cX6_findMove 95 = .ok (.iload 6, 2) := by decide +kernel
theorem dX6_findMove_97 : decode cX6_findMove 97 = .ok (.istore_n 2, 1) := by decide +kernel
theorem dX6_findMove_98 : decode cX6_findMove 98 = .ok (.aload_n 0, 1) := by decide +kernel
theorem dX6_findMove_99 : decode cX6_findMove 99 = .ok (.iload_n 3, 1) := by decide +kernel
theorem dX6_findMove_100 : decode cX6_findMove 100 = .ok (.putfield 53, 3) := by decide +kernel
theorem dX6_findMove_103 : decode cX6_findMove 103 = .ok (.aload_n 0, 1) := by decide +kernel
theorem dX6_findMove_104 : decode cX6_findMove 104 = .ok (.iload 5, 2) := by decide +kernel
theorem dX6_findMove_106 : decode cX6_findMove 106 = .ok (.putfield 56, 3) := by decide +kernel
theorem dX6_findMove_109 : decode cX6_findMove 109 = .ok (.iinc 5 1, 3) := by decide +kernel
theorem dX6_findMove_112 : decode cX6_findMove 112 = .ok (.goto (-50), 3) := by decide +kernel
theorem dX6_findMove_115 : decode cX6_findMove 115 = .ok (.iinc 3 1, 3) := by decide +kernel
theorem dX6_findMove_118 : decode cX6_findMove 118 = .ok (.goto (-99), 3) := by decide +kernel
theorem dX6_findMove_121 : decode cX6_findMove 121 = .ok (.aload_n 0, 1) := by decide +kernel
theorem dX6_findMove_122 : decode cX6_findMove 122 = .ok (.aload_n 0, 1) := by decide +kernel
theorem dX6_findMove_123 : decode cX6_findMove 123 = .ok (.getfield 53, 3) := by decide +kernel
theorem dX6_findMove_126 : decode cX6_findMove 126 = .ok (.iconst (-1), 1) := by decide +kernel
theorem dX6_findMove_127 : decode cX6_findMove 127 = .ok (.if_icmp .ne 7, 3) := by decide +kernel
theorem dX6_findMove_130 : decode cX6_findMove 130 = .ok (.iconst (-1), 1) := by decide +kernel
theorem dX6_findMove_131 : decode cX6_findMove 131 = .ok (.goto 4, 3) := by decide +kernel
theorem dX6_findMove_134 : decode cX6_findMove 134 = .ok (.iload_n 2, 1) := by decide +kernel
theorem dX6_findMove_135 : decode cX6_findMove 135 = .ok (.putfield 62, 3) := by decide +kernel
theorem dX6_findMove_138 : decode cX6_findMove 138 = .ok (.return_, 1) := by decide +kernel
theorem dX6_putAt_0 : decode cX6_putAt 0 = .ok (.iload_n 1, 1) := by decide +kernel
theorem dX6_putAt_1 : decode cX6_putAt 1 = .ok (.iload_n 2, 1) := by decide +kernel
theorem dX6_putAt_2 : decode cX6_putAt 2 = .ok (.iconst 1, 1) := by decide +kernel
theorem dX6_putAt_3 : decode cX6_putAt 3 = .ok (.isub, 1) := by decide +kernel
theorem dX6_putAt_4 : decode cX6_putAt 4 = .ok (.invokestatic 65, 3) := by decide +kernel
theorem dX6_putAt_7 : decode cX6_putAt 7 = .ok (.istore_n 3, 1) := by decide +kernel
theorem dX6_putAt_8 : decode cX6_putAt 8 = .ok (.iload_n 1, 1) := by decide +kernel
theorem dX6_putAt_9 : decode cX6_putAt 9 = .ok (.iload_n 2, 1) := by decide +kernel
theorem dX6_putAt_10 : decode cX6_putAt 10 = .ok (.invokestatic 65, 3) := by decide +kernel
theorem dX6_putAt_13 : decode cX6_putAt 13 = .ok (.istore 4, 2) := by decide +kernel
theorem dX6_putAt_15 : decode cX6_putAt 15 = .ok (.aload_n 0, 1) := by decide +kernel
theorem dX6_putAt_16 : decode cX6_putAt 16 = .ok (.iload_n 3, 1) := by decide +kernel
theorem dX6_putAt_17 : decode cX6_putAt 17 = .ok (.iload_n 1, 1) := by decide +kernel
theorem dX6_putAt_18 : decode cX6_putAt 18 = .ok (.invokevirtual 45, 3) := by decide +kernel
theorem dX6_putAt_21 : decode cX6_putAt 21 = .ok (.aload_n 0, 1) := by decide +kernel
theorem dX6_putAt_22 : decode cX6_putAt 22 = .ok (.iload_n 1, 1) := by decide +kernel
theorem dX6_putAt_23 : decode cX6_putAt 23 = .ok (.iload 4, 2) := by decide +kernel
theorem dX6_putAt_25 : decode cX6_putAt 25 = .ok (.invokevirtual 45, 3) := by decide +kernel
theorem dX6_putAt_28 : decode cX6_putAt 28 = .ok (.iadd, 1) := by decide +kernel
theorem dX6_putAt_29 : decode cX6_putAt 29 = .ok (.aload_n 0, 1) := by decide +kernel
theorem dX6_putAt_30 : decode cX6_putAt 30 = .ok (.iload_n 3, 1) := by decide +kernel
theorem dX6_putAt_31 : decode cX6_putAt 31 = .ok (.iload 4, 2) := by decide +kernel
theorem dX6_putAt_33 : decode cX6_putAt 33 = .ok (.invokevirtual 45, 3) := by decide +kernel
theorem dX6_putAt_36 : decode cX6_putAt 36 = .ok (.isub, 1) := by decide +kernel
theorem dX6_putAt_37 : decode cX6_putAt 37 = .ok (.ireturn, 1) := by decide +kernel
theorem dX6_otherAt_0 : decode cX6_otherAt 0 = .ok (.iload_n 1, 1) := by decide +kernel
theorem dX6_otherAt_1 : decode cX6_otherAt 1 = .ok (.iload_n 0, 1) := by decide +kernel
theorem dX6_otherAt_2 : decode cX6_otherAt 2 = .ok (.if_icmp .ge 7, 3) := by decide +kernel
theorem dX6_otherAt_5 : decode cX6_otherAt 5 = .ok (.iload_n 1, 1) := by decide +kernel
theorem dX6_otherAt_6 : decode cX6_otherAt 6 = .ok (.goto 6, 3) := by decide +kernel
theorem dX6_otherAt_9 : decode cX6_otherAt 9 = .ok (.iload_n 1, 1) := by decide +kernel
theorem dX6_otherAt_10 : decode cX6_otherAt 10 = .ok (.iconst 1, 1) := by decide +kernel
theorem dX6_otherAt_11 : decode cX6_otherAt 11 = .ok (.iadd, 1) := by decide +kernel
theorem dX6_otherAt_12 : decode cX6_otherAt 12 = .ok (.ireturn, 1) := by decide +kernel
theorem dX6_lack_0 : decode cX6_lack 0 = .ok (.iload_n 2, 1) := by decide +kernel
theorem dX6_lack_1 : decode cX6_lack 1 = .ok (.ifCond .lt 11, 3) := by decide +kernel
theorem dX6_lack_4 : decode cX6_lack 4 = .ok (.iload_n 2, 1) := by decide +kernel
theorem dX6_lack_5 : decode cX6_lack 5 = .ok (.aload_n 0, 1) := by decide +kernel
theorem dX6_lack_6 : decode cX6_lack 6 = .ok (.getfield 24, 3) := by decide +kernel
theorem dX6_lack_9 : decode cX6_lack 9 = .ok (.if_icmp .lt 5, 3) := by decide +kernel
theorem dX6_lack_12 : decode cX6_lack 12 = .ok (.iconst 0, 1) := by decide +kernel
theorem dX6_lack_13 : decode cX6_lack 13 = .ok (.ireturn, 1) := by decide +kernel
theorem dX6_lack_14 : decode cX6_lack 14 = .ok (.iload_n 1, 1) := by decide +kernel
theorem dX6_lack_15 : decode cX6_lack 15 = .ok (.ifCond .lt 11, 3) := by decide +kernel
theorem dX6_lack_18 : decode cX6_lack 18 = .ok (.iload_n 1, 1) := by decide +kernel
theorem dX6_lack_19 : decode cX6_lack 19 = .ok (.aload_n 0, 1) := by decide +kernel
theorem dX6_lack_20 : decode cX6_lack 20 = .ok (.getfield 24, 3) := by decide +kernel
theorem dX6_lack_23 : decode cX6_lack 23 = .ok (.if_icmp .lt 7, 3) := by decide +kernel
theorem dX6_lack_26 : decode cX6_lack 26 = .ok (.iconst 0, 1) := by decide +kernel
theorem dX6_lack_27 : decode cX6_lack 27 = .ok (.goto 9, 3) := by decide +kernel
theorem dX6_lack_30 : decode cX6_lack 30 = .ok (.aload_n 0, 1) := by decide +kernel
theorem dX6_lack_31 : decode cX6_lack 31 = .ok (.getfield 15, 3) := by decide +kernel
theorem dX6_lack_34 : decode cX6_lack 34 = .ok (.iload_n 1, 1) := by decide +kernel
theorem dX6_lack_35 : decode cX6_lack 35 = .ok (.iaload, 1) := by decide +kernel
theorem dX6_lack_36 : decode cX6_lack 36 = .ok (.istore_n 3, 1) := by decide +kernel
theorem dX6_lack_37 : decode cX6_lack 37 = .ok (.iconst 0, 1) := by decide +kernel
theorem dX6_lack_38 : decode cX6_lack 38 = .ok (.iload_n 3, 1) := by decide +kernel
theorem dX6_lack_39 : decode cX6_lack 39 = .ok (.aload_n 0, 1) := by decide +kernel
theorem dX6_lack_40 : decode cX6_lack 40 = .ok (.getfield 9, 3) := by decide +kernel
theorem dX6_lack_43 : decode cX6_lack 43 = .ok (.iload_n 2, 1) := by decide +kernel
theorem dX6_lack_44 : decode cX6_lack 44 = .ok (.iaload, 1) := by decide +kernel
theorem dX6_lack_45 : decode cX6_lack 45 = .ok (.isub, 1) := by decide +kernel
theorem dX6_lack_46 : decode cX6_lack 46 = .ok (.invokestatic 68, 3) := by decide +kernel
theorem dX6_lack_49 : decode cX6_lack 49 = .ok (.ireturn, 1) := by decide +kernel
theorem dX7_init_0 : decode cX7_init 0 = .ok (.aload_n 0, 1) := by decide +kernel
theorem dX7_init_1 : decode cX7_init 1 = .ok (.invokespecial 3, 3) := by decide +kernel
theorem dX7_init_4 : decode cX7_init 4 = .ok (.aload_n 0, 1) := by decide +kernel
theorem dX7_init_5 : decode cX7_init 5 = .ok (.iconst (-1), 1) := by decide +kernel
theorem dX7_init_6 : decode cX7_init 6 = .ok (.putfield 9, 3) := by decide +kernel
theorem dX7_init_9 : decode cX7_init 9 = .ok (.aload_n 0, 1) := by decide +kernel
theorem dX7_init_10 : decode cX7_init 10 = .ok (.sipush 500, 3) := by decide +kernel
theorem dX7_init_13 : decode cX7_init 13 = .ok (.newarray .int, 2) := by decide +kernel
theorem dX7_init_15 : decode cX7_init 15 = .ok (.putfield 15, 3) := by decide +kernel
theorem dX7_init_18 : decode cX7_init 18 = .ok (.return_, 1) := by decide +kernel
theorem dX7_put_0 : decode cX7_put 0 = .ok (.bipush 24, 2) := by decide +kernel
theorem dX7_put_2 : decode cX7_put 2 = .ok (.istore_n 2, 1) := by decide +kernel
theorem dX7_put_3 : decode cX7_put 3 = .ok (.iload_n 2, 1) := by decide +kernel
theorem dX7_put_4 : decode cX7_put 4 = .ok (.ifCond .lt 45, 3) := by decide +kernel
theorem dX7_put_7 : decode cX7_put 7 = .ok (.aload_n 0, 1) := by decide +kernel
theorem dX7_put_8 : decode cX7_put 8 = .ok (.getfield 19, 3) := by decide +kernel
theorem dX7_put_11 : decode cX7_put 11 = .ok (.sipush 500, 3) := by decide +kernel
theorem dX7_put_14 : decode cX7_put 14 = .ok (.if_icmp .ge 29, 3) := by decide +kernel
theorem dX7_put_17 : decode cX7_put 17 = .ok (.aload_n 0, 1) := by decide +kernel
theorem dX7_put_18 : decode cX7_put 18 = .ok (.getfield 15, 3) := by decide +kernel
theorem dX7_put_21 : decode cX7_put 21 = .ok (.aload_n 0, 1) := by decide +kernel
theorem dX7_put_22 : decode cX7_put 22 = .ok (.getfield 19, 3) := by decide +kernel
theorem dX7_put_25 : decode cX7_put 25 = .ok (.iload_n 1, 1) := by decide +kernel
theorem dX7_put_26 : decode cX7_put 26 = .ok (.iload_n 2, 1) := by decide +kernel
theorem dX7_put_27 : decode cX7_put 27 = .ok (.iushr, 1) := by decide +kernel
theorem dX7_put_28 : decode cX7_put 28 = .ok (.sipush 255, 3) := by decide +kernel
theorem dX7_put_31 : decode cX7_put 31 = .ok (.iand, 1) := by decide +kernel
theorem dX7_put_32 : decode cX7_put 32 = .ok (.iastore, 1) := by decide +kernel
theorem dX7_put_33 : decode cX7_put 33 = .ok (.aload_n 0, 1) := by decide +kernel
theorem dX7_put_34 : decode cX7_put 34 = .ok (.dup, 1) := by decide +kernel
theorem dX7_put_35 : decode cX7_put 35 = .ok (.getfield 19, 3) := by decide +kernel
theorem dX7_put_38 : decode cX7_put 38 = .ok (.iconst 1, 1) := by decide +kernel
theorem dX7_put_39 : decode cX7_put 39 = .ok (.iadd, 1) := by decide +kernel
theorem dX7_put_40 : decode cX7_put 40 = .ok (.putfield 19, 3) := by decide +kernel
theorem dX7_put_43 : decode cX7_put 43 = .ok (.iinc 2 (-8), 3) := by decide +kernel
theorem dX7_put_46 : decode cX7_put 46 = .ok (.goto (-43), 3) := by decide +kernel
theorem dX7_put_49 : decode cX7_put 49 = .ok (.return_, 1) := by decide +kernel
theorem dX7_begin_0 : decode cX7_begin 0 = .ok (.aload_n 0, 1) := by decide +kernel
theorem dX7_begin_1 : decode cX7_begin 1 = .ok (.iload_n 1, 1) := by decide +kernel
theorem dX7_begin_2 : decode cX7_begin 2 = .ok (.putfield 22, 3) := by decide +kernel
theorem dX7_begin_5 : decode cX7_begin 5 = .ok (.aload_n 0, 1) := by decide +kernel
theorem dX7_begin_6 : decode cX7_begin 6 = .ok (.iconst 0, 1) := by decide +kernel
theorem dX7_begin_7 : decode cX7_begin 7 = .ok (.putfield 25, 3) := by decide +kernel
theorem dX7_begin_10 : decode cX7_begin 10 = .ok (.aload_n 0, 1) := by decide +kernel
theorem dX7_begin_11 : decode cX7_begin 11 = .ok (.iconst (-1), 1) := by decide +kernel
theorem dX7_begin_12 : decode cX7_begin 12 = .ok (.putfield 9, 3) := by decide +kernel
theorem dX7_begin_15 : decode cX7_begin 15 = .ok (.aload_n 0, 1) := by decide +kernel
theorem dX7_begin_16 : decode cX7_begin 16 = .ok (.iconst 0, 1) := by decide +kernel
theorem dX7_begin_17 : decode cX7_begin 17 = .ok (.putfield 28, 3) := by decide +kernel
theorem dX7_begin_20 : decode cX7_begin 20 = .ok (.aload_n 0, 1) := by decide +kernel
theorem dX7_begin_21 : decode cX7_begin 21 = .ok (.iconst 0, 1) := by decide +kernel
theorem dX7_begin_22 : decode cX7_begin 22 = .ok (.putfield 31, 3) := by decide +kernel
theorem dX7_begin_25 : decode cX7_begin 25 = .ok (.aload_n 0, 1) := by decide +kernel
theorem dX7_begin_26 : decode cX7_begin 26 = .ok (.invokevirtual 34, 3) := by decide +kernel
theorem dX7_begin_29 : decode cX7_begin 29 = .ok (.return_, 1) := by decide +kernel
theorem dX7_hasMore_0 : decode cX7_hasMore 0 = .ok (.aload_n 0, 1) := by decide +kernel
theorem dX7_hasMore_1 : decode cX7_hasMore 1 = .ok (.getfield 25, 3) := by decide +kernel
theorem dX7_hasMore_4 : decode cX7_hasMore 4 = .ok (.ifCond .ne 14, 3) := by decide +kernel
theorem dX7_hasMore_7 : decode cX7_hasMore 7 = .ok (.aload_n 0, 1) := by decide +kernel
theorem dX7_hasMore_8 : decode cX7_hasMore 8 = .ok (.getfield 37, 3) := by decide +kernel
theorem dX7_hasMore_11 : decode cX7_hasMore 11 = .ok (.ifCond .eq 7, 3) := by decide +kernel
theorem dX7_hasMore_14 : decode cX7_hasMore 14 = .ok (.iconst 1, 1) := by decide +kernel
theorem dX7_hasMore_15 : decode cX7_hasMore 15 = .ok (.goto 4, 3) := by decide +kernel
theorem dX7_hasMore_18 : decode cX7_hasMore 18 = .ok (.iconst 0, 1) := by decide +kernel
theorem dX7_hasMore_19 : decode cX7_hasMore 19 = .ok (.ireturn, 1) := by decide +kernel
theorem dX7_takes_0 : decode cX7_takes 0 = .ok (.aload_n 0, 1) := by decide +kernel
theorem dX7_takes_1 : decode cX7_takes 1 = .ok (.getfield 25, 3) := by decide +kernel
theorem dX7_takes_4 : decode cX7_takes 4 = .ok (.ifCond .ne 19, 3) := by decide +kernel
theorem dX7_takes_7 : decode cX7_takes 7 = .ok (.aload_n 0, 1) := by decide +kernel
theorem dX7_takes_8 : decode cX7_takes 8 = .ok (.getfield 37, 3) := by decide +kernel
theorem dX7_takes_11 : decode cX7_takes 11 = .ok (.iconst 1, 1) := by decide +kernel
theorem dX7_takes_12 : decode cX7_takes 12 = .ok (.if_icmp .ne 11, 3) := by decide +kernel
theorem dX7_takes_15 : decode cX7_takes 15 = .ok (.aload_n 0, 1) := by decide +kernel
theorem dX7_takes_16 : decode cX7_takes 16 = .ok (.aload_n 1, 1) := by decide +kernel
theorem dX7_takes_17 : decode cX7_takes 17 = .ok (.invokevirtual 40, 3) := by decide +kernel
theorem dX7_takes_20 : decode cX7_takes 20 = .ok (.ifCond .ne 5, 3) := by decide +kernel
theorem dX7_takes_23 : decode cX7_takes 23 = .ok (.iconst 0, 1) := by decide +kernel
theorem dX7_takes_24 : decode cX7_takes 24 = .ok (.ireturn, 1) := by decide +kernel
theorem dX7_takes_25 : decode cX7_takes 25 = .ok (.aload_n 0, 1) := by decide +kernel
theorem dX7_takes_26 : decode cX7_takes 26 = .ok (.aload_n 0, 1) := by decide +kernel
theorem dX7_takes_27 : decode cX7_takes 27 = .ok (.getfield 44, 3) := by decide +kernel
theorem dX7_takes_30 : decode cX7_takes 30 = .ok (.putfield 28, 3) := by decide +kernel
theorem dX7_takes_33 : decode cX7_takes 33 = .ok (.aload_n 0, 1) := by decide +kernel
theorem dX7_takes_34 : decode cX7_takes 34 = .ok (.invokevirtual 34, 3) := by decide +kernel
theorem dX7_takes_37 : decode cX7_takes 37 = .ok (.iconst 1, 1) := by decide +kernel
theorem dX7_takes_38 : decode cX7_takes 38 = .ok (.ireturn, 1) := by decide +kernel
theorem dX7_number_0 : decode cX7_number 0 = .ok (.aload_n 0, 1) := by decide +kernel
theorem dX7_number_1 : decode cX7_number 1 = .ok (.getfield 25, 3) := by decide +kernel
theorem dX7_number_4 : decode cX7_number 4 = .ok (.ifCond .eq 5, 3) := by decide +kernel
theorem dX7_number_7 : decode cX7_number 7 = .ok (.iload_n 1, 1) := by decide +kernel
theorem dX7_number_8 : decode cX7_number 8 = .ok (.ireturn, 1) := by decide +kernel
theorem dX7_number_9 : decode cX7_number 9 = .ok (.aload_n 0, 1) := by decide +kernel
theorem dX7_number_10 : decode cX7_number 10 = .ok (.getfield 37, 3) := by decide +kernel
theorem dX7_number_13 : decode cX7_number 13 = .ok (.iconst 2, 1) := by decide +kernel
theorem dX7_number_14 : decode cX7_number 14 = .ok (.if_icmp .eq 14, 3) := by decide +kernel
theorem dX7_number_17 : decode cX7_number 17 = .ok (.aload_n 0, 1) := by decide +kernel
theorem dX7_number_18 : decode cX7_number 18 = .ok (.iconst 1, 1) := by decide +kernel
theorem dX7_number_19 : decode cX7_number 19 = .ok (.aload_n 0, 1) := by decide +kernel
theorem dX7_number_20 : decode cX7_number 20 = .ok (.getfield 44, 3) := by decide +kernel
theorem dX7_number_23 : decode cX7_number 23 = .ok (.invokevirtual 47, 3) := by decide +kernel
theorem dX7_number_26 : decode cX7_number 26 = .ok (.iload_n 1, 1) := by decide +kernel
theorem dX7_number_27 : decode cX7_number 27 = .ok (.ireturn, 1) := by decide +kernel
theorem dX7_number_28 : decode cX7_number 28 = .ok (.aload_n 0, 1) := by decide +kernel
theorem dX7_number_29 : decode cX7_number 29 = .ok (.invokevirtual 51, 3) := by decide +kernel
theorem dX7_number_32 : decode cX7_number 32 = .ok (.istore_n 3, 1) := by decide +kernel
theorem dX7_number_33 : decode cX7_number 33 = .ok (.iload_n 3, 1) := by decide +kernel
theorem dX7_number_34 : decode cX7_number 34 = .ok (.iload_n 1, 1) := by decide +kernel
theorem dX7_number_35 : decode cX7_number 35 = .ok (.if_icmp .lt 8, 3) := by decide +kernel
theorem dX7_number_38 : decode cX7_number 38 = .ok (.iload_n 3, 1) := by decide +kernel
theorem dX7_number_39 : decode cX7_number 39 = .ok (.iload_n 2, 1) := by decide +kernel
theorem dX7_number_40 : decode cX7_number 40 = .ok (.if_icmp .le 14, 3) := by decide +kernel
theorem dX7_number_43 : decode cX7_number 43 = .ok (.aload_n 0, 1) := by decide +kernel
theorem dX7_number_44 : decode cX7_number 44 = .ok (.iconst 2, 1) := by decide +kernel
theorem dX7_number_45 : decode cX7_number 45 = .ok (.aload_n 0, 1) := by decide +kernel
theorem dX7_number_46 : decode cX7_number 46 = .ok (.getfield 44, 3) := by decide +kernel
theorem dX7_number_49 : decode cX7_number 49 = .ok (.invokevirtual 47, 3) := by decide +kernel
theorem dX7_number_52 : decode cX7_number 52 = .ok (.iload_n 1, 1) := by decide +kernel
theorem dX7_number_53 : decode cX7_number 53 = .ok (.ireturn, 1) := by decide +kernel
theorem dX7_number_54 : decode cX7_number 54 = .ok (.aload_n 0, 1) := by decide +kernel
theorem dX7_number_55 : decode cX7_number 55 = .ok (.aload_n 0, 1) := by decide +kernel
theorem dX7_number_56 : decode cX7_number 56 = .ok (.getfield 44, 3) := by decide +kernel
theorem dX7_number_59 : decode cX7_number 59 = .ok (.putfield 28, 3) := by decide +kernel
theorem dX7_number_62 : decode cX7_number 62 = .ok (.aload_n 0, 1) := by decide +kernel
theorem dX7_number_63 : decode cX7_number 63 = .ok (.invokevirtual 34, 3) := by decide +kernel
theorem dX7_number_66 : decode cX7_number 66 = .ok (.iload_n 3, 1) := by decide +kernel
theorem dX7_number_67 : decode cX7_number 67 = .ok (.ireturn, 1) := by decide +kernel
theorem dX7_endLine_0 : decode cX7_endLine 0 = .ok (.aload_n 0, 1) := by decide +kernel
theorem dX7_endLine_1 : decode cX7_endLine 1 = .ok (.getfield 25, 3) := by decide +kernel
theorem dX7_endLine_4 : decode cX7_endLine 4 = .ok (.ifCond .eq 4, 3) := by decide +kernel
theorem dX7_endLine_7 : decode cX7_endLine 7 = .ok (.return_, 1) := by decide +kernel
theorem dX7_endLine_8 : decode cX7_endLine 8 = .ok (.aload_n 0, 1) := by decide +kernel
theorem dX7_endLine_9 : decode cX7_endLine 9 = .ok (.getfield 37, 3) := by decide +kernel
theorem dX7_endLine_12 : decode cX7_endLine 12 = .ok (.iconst 3, 1) := by decide +kernel
theorem dX7_endLine_13 : decode cX7_endLine 13 = .ok (.if_icmp .ne 10, 3) := by decide +kernel
theorem dX7_endLine_16 : decode cX7_endLine 16 = .ok (.aload_n 0, 1) := by decide +kernel
theorem dX7_endLine_17 : decode cX7_endLine 17 = .ok (.invokevirtual 34, 3) := by decide +kernel
theorem dX7_endLine_20 : decode cX7_endLine 20 = .ok (.goto 12, 3) := by decide +kernel
theorem dX7_endLine_23 : decode cX7_endLine 23 = .ok (.aload_n 0, 1) := by decide +kernel
theorem dX7_endLine_24 : decode cX7_endLine 24 = .ok (.iconst 1, 1) := by decide +kernel
theorem dX7_endLine_25 : decode cX7_endLine 25 = .ok (.aload_n 0, 1) := by decide +kernel
theorem dX7_endLine_26 : decode cX7_endLine 26 = .ok (.getfield 44, 3) := by decide +kernel
theorem dX7_endLine_29 : decode cX7_endLine 29 = .ok (.invokevirtual 47, 3) := by decide +kernel
theorem dX7_endLine_32 : decode cX7_endLine 32 = .ok (.return_, 1) := by decide +kernel
theorem dX7_blame_0 : decode cX7_blame 0 = .ok (.aload_n 0, 1) := by decide +kernel
theorem dX7_blame_1 : decode cX7_blame 1 = .ok (.getfield 25, 3) := by decide +kernel
theorem dX7_blame_4 : decode cX7_blame 4 = .ok (.ifCond .ne 13, 3) := by decide +kernel
theorem dX7_blame_7 : decode cX7_blame 7 = .ok (.aload_n 0, 1) := by decide +kernel
theorem dX7_blame_8 : decode cX7_blame 8 = .ok (.iload_n 1, 1) := by decide +kernel
theorem dX7_blame_9 : decode cX7_blame 9 = .ok (.putfield 25, 3) := by decide +kernel
theorem dX7_blame_12 : decode cX7_blame 12 = .ok (.aload_n 0, 1) := by decide +kernel
theorem dX7_blame_13 : decode cX7_blame 13 = .ok (.iload_n 2, 1) := by decide +kernel
theorem dX7_blame_14 : decode cX7_blame 14 = .ok (.putfield 9, 3) := by decide +kernel
theorem dX7_blame_17 : decode cX7_blame 17 = .ok (.return_, 1) := by decide +kernel
theorem dX7_step_0 : decode cX7_step 0 = .ok (.aload_n 0, 1) := by decide +kernel
theorem dX7_step_1 : decode cX7_step 1 = .ok (.getfield 31, 3) := by decide +kernel
theorem dX7_step_4 : decode cX7_step 4 = .ok (.istore_n 1, 1) := by decide +kernel
theorem dX7_step_5 : decode cX7_step 5 = .ok (.iload_n 1, 1) := by decide +kernel
theorem dX7_step_6 : decode cX7_step 6 = .ok (.aload_n 0, 1) := by decide +kernel
theorem dX7_step_7 : decode cX7_step 7 = .ok (.getfield 22, 3) := by decide +kernel
theorem dX7_step_10 : decode cX7_step 10 = .ok (.if_icmp .ge 31, 3) := by decide +kernel
theorem dX7_step_13 : decode cX7_step 13 = .ok (.aload_n 0, 1) := by decide +kernel
theorem dX7_step_14 : decode cX7_step 14 = .ok (.getfield 15, 3) := by decide +kernel
theorem dX7_step_17 : decode cX7_step 17 = .ok (.iload_n 1, 1) := by decide +kernel
theorem dX7_step_18 : decode cX7_step 18 = .ok (.iaload, 1) := by decide +kernel
theorem dX7_step_19 : decode cX7_step 19 = .ok (.bipush 32, 2) := by decide +kernel
theorem dX7_step_21 : decode cX7_step 21 = .ok (.if_icmp .eq 14, 3) := by decide +kernel
theorem dX7_step_24 : decode cX7_step 24 = .ok (.aload_n 0, 1) := by decide +kernel
theorem dX7_step_25 : decode cX7_step 25 = .ok (.getfield 15, 3) := by decide +kernel
theorem dX7_step_28 : decode cX7_step 28 = .ok (.iload_n 1, 1) := by decide +kernel
theorem dX7_step_29 : decode cX7_step 29 = .ok (.iaload, 1) := by decide +kernel
theorem dX7_step_30 : decode cX7_step 30 = .ok (.bipush 10, 2) := by decide +kernel
theorem dX7_step_32 : decode cX7_step 32 = .ok (.if_icmp .ne 9, 3) := by decide +kernel
theorem dX7_step_35 : decode cX7_step 35 = .ok (.iinc 1 1, 3) := by decide +kernel
theorem dX7_step_38 : decode cX7_step 38 = .ok (.goto (-33), 3) := by decide +kernel
theorem dX7_step_41 : decode cX7_step 41 = .ok (.aload_n 0, 1) := by decide +kernel
theorem dX7_step_42 : decode cX7_step 42 = .ok (.iload_n 1, 1) := by decide +kernel
theorem dX7_step_43 : decode cX7_step 43 = .ok (.putfield 44, 3) := by decide +kernel
theorem dX7_step_46 : decode cX7_step 46 = .ok (.aload_n 0, 1) := by decide +kernel
theorem dX7_step_47 : decode cX7_step 47 = .ok (.iconst 0, 1) := by decide +kernel
theorem dX7_step_48 : decode cX7_step 48 = .ok (.putfield 37, 3) := by decide +kernel
theorem dX7_step_51 : decode cX7_step 51 = .ok (.iload_n 1, 1) := by decide +kernel
theorem dX7_step_52 : decode cX7_step 52 = .ok (.aload_n 0, 1) := by decide +kernel
theorem dX7_step_53 : decode cX7_step 53 = .ok (.getfield 22, 3) := by decide +kernel
theorem dX7_step_56 : decode cX7_step 56 = .ok (.if_icmp .ge 65, 3) := by decide +kernel
theorem dX7_step_59 : decode cX7_step 59 = .ok (.aload_n 0, 1) := by decide +kernel
theorem dX7_step_60 : decode cX7_step 60 = .ok (.aload_n 0, 1) := by decide +kernel
theorem dX7_step_61 : decode cX7_step 61 = .ok (.getfield 15, 3) := by decide +kernel
theorem dX7_step_64 : decode cX7_step 64 = .ok (.iload_n 1, 1) := by decide +kernel
theorem dX7_step_65 : decode cX7_step 65 = .ok (.iaload, 1) := by decide +kernel
theorem dX7_step_66 : decode cX7_step 66 = .ok (.invokestatic 55, 3) := by decide +kernel
theorem dX7_step_69 : decode cX7_step 69 = .ok (.putfield 37, 3) := by decide +kernel
theorem dX7_step_72 : decode cX7_step 72 = .ok (.iinc 1 1, 3) := by decide +kernel
theorem dX7_step_75 : decode cX7_step 75 = .ok (.iload_n 1, 1) := by decide +kernel
theorem dX7_step_76 : decode cX7_step 76 = .ok (.aload_n 0, 1) := by decide +kernel
theorem dX7_step_77 : decode cX7_step 77 = .ok (.getfield 22, 3) := by decide +kernel
theorem dX7_step_80 : decode cX7_step 80 = .ok (.if_icmp .ge 41, 3) := by decide +kernel
theorem dX7_step_83 : decode cX7_step 83 = .ok (.aload_n 0, 1) := by decide +kernel
theorem dX7_step_84 : decode cX7_step 84 = .ok (.getfield 37, 3) := by decide +kernel
theorem dX7_step_87 : decode cX7_step 87 = .ok (.iconst 1, 1) := by decide +kernel
theorem dX7_step_88 : decode cX7_step 88 = .ok (.if_icmp .eq 11, 3) := by decide +kernel
theorem dX7_step_91 : decode cX7_step 91 = .ok (.aload_n 0, 1) := by decide +kernel
theorem dX7_step_92 : decode cX7_step 92 = .ok (.getfield 37, 3) := by decide +kernel
theorem dX7_step_95 : decode cX7_step 95 = .ok (.iconst 2, 1) := by decide +kernel
theorem dX7_step_96 : decode cX7_step 96 = .ok (.if_icmp .ne 25, 3) := by decide +kernel
theorem dX7_step_99 : decode cX7_step 99 = .ok (.aload_n 0, 1) := by decide +kernel
theorem dX7_step_100 : decode cX7_step 100 = .ok (.getfield 15, 3) := by decide +kernel
theorem dX7_step_103 : decode cX7_step 103 = .ok (.iload_n 1, 1) := by decide +kernel
theorem dX7_step_104 : decode cX7_step 104 = .ok (.iaload, 1) := by decide +kernel
theorem dX7_step_105 : decode cX7_step 105 = .ok (.invokestatic 55, 3) := by decide +kernel
theorem dX7_step_108 : decode cX7_step 108 = .ok (.aload_n 0, 1) := by decide +kernel
theorem dX7_step_109 : decode cX7_step 109 = .ok (.getfield 37, 3) := by decide +kernel
theorem dX7_step_112 : decode cX7_step 112 = .ok (.if_icmp .ne 9, 3) := by decide +kernel
theorem dX7_step_115 : decode cX7_step 115 = .ok (.iinc 1 1, 3) := by decide +kernel
theorem dX7_step_118 : decode cX7_step 118 = .ok (.goto (-43), 3) := by decide +kernel
theorem dX7_step_121 : decode cX7_step 121 = .ok (.aload_n 0, 1) := by decide +kernel
theorem dX7_step_122 : decode cX7_step 122 = .ok (.iload_n 1, 1) := by decide +kernel
theorem dX7_step_123 : decode cX7_step 123 = .ok (.putfield 31, 3) := by decide +kernel
theorem dX7_step_126 : decode cX7_step 126 = .ok (.return_, 1) := by decide +kernel
theorem dX7_sortOf_0 : decode cX7_sortOf 0 = .ok (.iload_n 0, 1) := by decide +kernel
theorem dX7_sortOf_1 : decode cX7_sortOf 1 = .ok (.bipush 97, 2) := by decide +kernel
theorem dX7_sortOf_3 : decode cX7_sortOf 3 = .ok (.if_icmp .lt 11, 3) := by decide +kernel
theorem dX7_sortOf_6 : decode cX7_sortOf 6 = .ok (.iload_n 0, 1) := by decide +kernel
theorem dX7_sortOf_7 : decode cX7_sortOf 7 = .ok (.bipush 122, 2) := by decide +kernel
theorem dX7_sortOf_9 : decode cX7_sortOf 9 = .ok (.if_icmp .gt 5, 3) := by decide +kernel
theorem dX7_sortOf_12 : decode cX7_sortOf 12 = .ok (.iconst 1, 1) := by decide +kernel
theorem dX7_sortOf_13 : decode cX7_sortOf 13 = .ok (.ireturn, 1) := by decide +kernel
theorem dX7_sortOf_14 : decode cX7_sortOf 14 = .ok (.iload_n 0, 1) := by decide +kernel
theorem dX7_sortOf_15 : decode cX7_sortOf 15 = .ok (.bipush 48, 2) := by decide +kernel
theorem dX7_sortOf_17 : decode cX7_sortOf 17 = .ok (.if_icmp .lt 11, 3) := by decide +kernel
theorem dX7_sortOf_20 : decode cX7_sortOf 20 = .ok (.iload_n 0, 1) := by decide +kernel
theorem dX7_sortOf_21 : decode cX7_sortOf 21 = .ok (.bipush 57, 2) := by decide +kernel
theorem dX7_sortOf_23 : decode cX7_sortOf 23 = .ok (.if_icmp .gt 5, 3) := by decide +kernel
theorem dX7_sortOf_26 : decode cX7_sortOf 26 = .ok (.iconst 2, 1) := by decide +kernel
theorem dX7_sortOf_27 : decode cX7_sortOf 27 = .ok (.ireturn, 1) := by decide +kernel
theorem dX7_sortOf_28 : decode cX7_sortOf 28 = .ok (.iload_n 0, 1) := by decide +kernel
theorem dX7_sortOf_29 : decode cX7_sortOf 29 = .ok (.bipush 59, 2) := by decide +kernel
theorem dX7_sortOf_31 : decode cX7_sortOf 31 = .ok (.if_icmp .ne 7, 3) := by decide +kernel
theorem dX7_sortOf_34 : decode cX7_sortOf 34 = .ok (.iconst 3, 1) := by decide +kernel
theorem dX7_sortOf_35 : decode cX7_sortOf 35 = .ok (.goto 4, 3) := by decide +kernel
theorem dX7_sortOf_38 : decode cX7_sortOf 38 = .ok (.iconst 4, 1) := by decide +kernel
theorem dX7_sortOf_39 : decode cX7_sortOf 39 = .ok (.ireturn, 1) := by decide +kernel
theorem dX7_spells_0 : decode cX7_spells 0 = .ok (.aload_n 1, 1) := by decide +kernel
theorem dX7_spells_1 : decode cX7_spells 1 = .ok (.invokevirtual 59, 3) := by decide +kernel
theorem dX7_spells_4 : decode cX7_spells 4 = .ok (.aload_n 0, 1) := by decide +kernel
theorem dX7_spells_5 : decode cX7_spells 5 = .ok (.getfield 31, 3) := by decide +kernel
theorem dX7_spells_8 : decode cX7_spells 8 = .ok (.aload_n 0, 1) := by decide +kernel
theorem dX7_spells_9 : decode cX7_spells 9 = .ok (.getfield 44, 3) := by decide +kernel
theorem dX7_spells_12 : decode cX7_spells 12 = .ok (.isub, 1) := by decide +kernel
theorem dX7_spells_13 : decode cX7_spells 13 = .ok (.if_icmp .eq 5, 3) := by decide +kernel
theorem dX7_spells_16 : decode cX7_spells 16 = .ok (.iconst 0, 1) := by decide +kernel
theorem dX7_spells_17 : decode cX7_spells 17 = .ok (.ireturn, 1) := by decide +kernel
theorem dX7_spells_18 : decode cX7_spells 18 = .ok (.iconst 0, 1) := by decide +kernel
theorem dX7_spells_19 : decode cX7_spells 19 = .ok (.istore_n 2, 1) := by decide +kernel
theorem dX7_spells_20 : decode cX7_spells 20 = .ok (.iload_n 2, 1) := by decide +kernel
theorem dX7_spells_21 : decode cX7_spells 21 = .ok (.aload_n 1, 1) := by decide +kernel
theorem dX7_spells_22 : decode cX7_spells 22 = .ok (.invokevirtual 59, 3) := by decide +kernel
theorem dX7_spells_25 : decode cX7_spells 25 = .ok (.if_icmp .ge 30, 3) := by decide +kernel
theorem dX7_spells_28 : decode cX7_spells 28 = .ok (.aload_n 0, 1) := by decide +kernel
theorem dX7_spells_29 : decode cX7_spells 29 = .ok (.getfield 15, 3) := by decide +kernel
theorem dX7_spells_32 : decode cX7_spells 32 = .ok (.aload_n 0, 1) := by decide +kernel
theorem dX7_spells_33 : decode cX7_spells 33 = .ok (.getfield 44, 3) := by decide +kernel
theorem dX7_spells_36 : decode cX7_spells 36 = .ok (.iload_n 2, 1) := by decide +kernel
theorem dX7_spells_37 : decode cX7_spells 37 = .ok (.iadd, 1) := by decide +kernel
theorem dX7_spells_38 : decode cX7_spells 38 = .ok (.iaload, 1) := by decide +kernel
theorem dX7_spells_39 : decode cX7_spells 39 = .ok (.aload_n 1, 1) := by decide +kernel
theorem dX7_spells_40 : decode cX7_spells 40 = .ok (.iload_n 2, 1) := by decide +kernel
theorem dX7_spells_41 : decode cX7_spells 41 = .ok (.invokevirtual 63, 3) := by decide +kernel
theorem dX7_spells_44 : decode cX7_spells 44 = .ok (.if_icmp .eq 5, 3) := by decide +kernel
theorem dX7_spells_47 : decode cX7_spells 47 = .ok (.iconst 0, 1) := by decide +kernel
theorem dX7_spells_48 : decode cX7_spells 48 = .ok (.ireturn, 1) := by decide +kernel
theorem dX7_spells_49 : decode cX7_spells 49 = .ok (.iinc 2 1, 3) := by decide +kernel
theorem dX7_spells_52 : decode cX7_spells 52 = .ok (.goto (-32), 3) := by decide +kernel
theorem dX7_spells_55 : decode cX7_spells 55 = .ok (.iconst 1, 1) := by decide +kernel
theorem dX7_spells_56 : decode cX7_spells 56 = .ok (.ireturn, 1) := by decide +kernel
theorem dX7_digits_0 : decode cX7_digits 0 = .ok (.aload_n 0, 1) := by decide +kernel
theorem dX7_digits_1 : decode cX7_digits 1 = .ok (.getfield 31, 3) := by decide +kernel
theorem dX7_digits_4 : decode cX7_digits 4 = .ok (.aload_n 0, 1) := by decide +kernel
theorem dX7_digits_5 : decode cX7_digits 5 = .ok (.getfield 44, 3) := by decide +kernel
theorem dX7_digits_8 : decode cX7_digits 8 = .ok (.isub, 1) := by decide +kernel
theorem dX7_digits_9 : decode cX7_digits 9 = .ok (.iconst 4, 1) := by decide +kernel
theorem dX7_digits_10 : decode cX7_digits 10 = .ok (.if_icmp .le 6, 3) := by decide +kernel
theorem dX7_digits_13 : decode cX7_digits 13 = .ok (.ldc 69, 2) := by decide +kernel
theorem dX7_digits_15 : decode cX7_digits 15 = .ok (.ireturn, 1) := by decide +kernel
theorem dX7_digits_16 : decode cX7_digits 16 = .ok (.iconst 0, 1) := by decide +kernel
theorem dX7_digits_17 : decode cX7_digits 17 = .ok (.istore_n 1, 1) := by decide +kernel
theorem dX7_digits_18 : decode cX7_digits 18 = .ok (.aload_n 0, 1) := by decide +kernel
theorem dX7_digits_19 : decode cX7_digits 19 = .ok (.getfield 44, 3) := by decide +kernel
theorem dX7_digits_22 : decode cX7_digits 22 = .ok (.istore_n 2, 1) := by decide +kernel
theorem dX7_digits_23 : decode cX7_digits 23 = .ok (.iload_n 2, 1) := by decide +kernel
theorem dX7_digits_24 : decode cX7_digits 24 = .ok (.aload_n 0, 1) := by decide +kernel
theorem dX7_digits_25 : decode cX7_digits 25 = .ok (.getfield 31, 3) := by decide +kernel
theorem dX7_digits_28 : decode cX7_digits 28 = .ok (.if_icmp .ge 24, 3) := by decide +kernel
theorem dX7_digits_31 : decode cX7_digits 31 = .ok (.bipush 10, 2) := by decide +kernel
theorem dX7_digits_33 : decode cX7_digits 33 = .ok (.iload_n 1, 1) := by decide +kernel
theorem dX7_digits_34 : decode cX7_digits 34 = .ok (.imul, 1) := by decide +kernel
theorem dX7_digits_35 : decode cX7_digits 35 = .ok (.aload_n 0, 1) := by decide +kernel
theorem dX7_digits_36 : decode cX7_digits 36 = .ok (.getfield 15, 3) := by decide +kernel
theorem dX7_digits_39 : decode cX7_digits 39 = .ok (.iload_n 2, 1) := by decide +kernel
theorem dX7_digits_40 : decode cX7_digits 40 = .ok (.iaload, 1) := by decide +kernel
theorem dX7_digits_41 : decode cX7_digits 41 = .ok (.iadd, 1) := by decide +kernel
theorem dX7_digits_42 : decode cX7_digits 42 = .ok (.bipush 48, 2) := by decide +kernel
theorem dX7_digits_44 : decode cX7_digits 44 = .ok (.isub, 1) := by decide +kernel
theorem dX7_digits_45 : decode cX7_digits 45 = .ok (.istore_n 1, 1) := by decide +kernel
theorem dX7_digits_46 : decode cX7_digits 46 = .ok (.iinc 2 1, 3) := by decide +kernel
theorem dX7_digits_49 : decode cX7_digits 49 = .ok (.goto (-26), 3) := by decide +kernel
theorem dX7_digits_52 : decode cX7_digits 52 = .ok (.iload_n 1, 1) := by decide +kernel
theorem dX7_digits_53 : decode cX7_digits 53 = .ok (.ireturn, 1) := by decide +kernel
theorem dX8_init_0 : decode cX8_init 0 = .ok (.aload_n 0, 1) := by decide +kernel
theorem dX8_init_1 : decode cX8_init 1 = .ok (.invokespecial 3, 3) := by decide +kernel
theorem dX8_init_4 : decode cX8_init 4 = .ok (.aload_n 0, 1) := by decide +kernel
theorem dX8_init_5 : decode cX8_init 5 = .ok (.bipush 20, 2) := by decide +kernel
theorem dX8_init_7 : decode cX8_init 7 = .ok (.newarray .int, 2) := by decide +kernel
theorem dX8_init_9 : decode cX8_init 9 = .ok (.putfield 9, 3) := by decide +kernel
theorem dX8_init_12 : decode cX8_init 12 = .ok (.aload_n 0, 1) := by decide +kernel
theorem dX8_init_13 : decode cX8_init 13 = .ok (.bipush 20, 2) := by decide +kernel
theorem dX8_init_15 : decode cX8_init 15 = .ok (.newarray .int, 2) := by decide +kernel
theorem dX8_init_17 : decode cX8_init 17 = .ok (.putfield 15, 3) := by decide +kernel
theorem dX8_init_20 : decode cX8_init 20 = .ok (.return_, 1) := by decide +kernel
theorem dX8_add_0 : decode cX8_add 0 = .ok (.aload_n 0, 1) := by decide +kernel
theorem dX8_add_1 : decode cX8_add 1 = .ok (.getfield 18, 3) := by decide +kernel
theorem dX8_add_4 : decode cX8_add 4 = .ok (.bipush 20, 2) := by decide +kernel
theorem dX8_add_6 : decode cX8_add 6 = .ok (.if_icmp .ge 26, 3) := by decide +kernel
theorem dX8_add_9 : decode cX8_add 9 = .ok (.iload_n 1, 1) := by decide +kernel
theorem dX8_add_10 : decode cX8_add 10 = .ok (.iconst 1, 1) := by decide +kernel
theorem dX8_add_11 : decode cX8_add 11 = .ok (.if_icmp .lt 21, 3) := by decide +kernel
theorem dX8_add_14 : decode cX8_add 14 = .ok (.iload_n 1, 1) := by decide +kernel
theorem dX8_add_15 : decode cX8_add 15 = .ok (.sipush 999, 3) := by decide +kernel
theorem dX8_add_18 : decode cX8_add 18 = .ok (.if_icmp .gt 14, 3) := by decide +kernel
theorem dX8_add_21 : decode cX8_add 21 = .ok (.iload_n 2, 1) := by decide +kernel
theorem dX8_add_22 : decode cX8_add 22 = .ok (.ifCond .lt 10, 3) := by decide +kernel
theorem dX8_add_25 : decode cX8_add 25 = .ok (.iload_n 2, 1) := by decide +kernel
theorem dX8_add_26 : decode cX8_add 26 = .ok (.sipush 9999, 3) := by decide +kernel
theorem dX8_add_29 : decode cX8_add 29 = .ok (.if_icmp .le 5, 3) := by decide +kernel
theorem dX8_add_32 : decode cX8_add 32 = .ok (.iconst 0, 1) := by decide +kernel
theorem dX8_add_33 : decode cX8_add 33 = .ok (.ireturn, 1) := by decide +kernel
theorem dX8_add_34 : decode cX8_add 34 = .ok (.aload_n 0, 1) := by decide +kernel
theorem dX8_add_35 : decode cX8_add 35 = .ok (.getfield 9, 3) := by decide +kernel
theorem dX8_add_38 : decode cX8_add 38 = .ok (.aload_n 0, 1) := by decide +kernel
theorem dX8_add_39 : decode cX8_add 39 = .ok (.getfield 18, 3) := by decide +kernel
theorem dX8_add_42 : decode cX8_add 42 = .ok (.iload_n 1, 1) := by decide +kernel
theorem dX8_add_43 : decode cX8_add 43 = .ok (.iastore, 1) := by decide +kernel
theorem dX8_add_44 : decode cX8_add 44 = .ok (.aload_n 0, 1) := by decide +kernel
theorem dX8_add_45 : decode cX8_add 45 = .ok (.getfield 15, 3) := by decide +kernel
theorem dX8_add_48 : decode cX8_add 48 = .ok (.aload_n 0, 1) := by decide +kernel
theorem dX8_add_49 : decode cX8_add 49 = .ok (.getfield 18, 3) := by decide +kernel
theorem dX8_add_52 : decode cX8_add 52 = .ok (.iload_n 2, 1) := by decide +kernel
theorem dX8_add_53 : decode cX8_add 53 = .ok (.iastore, 1) := by decide +kernel
theorem dX8_add_54 : decode cX8_add 54 = .ok (.aload_n 0, 1) := by decide +kernel
theorem dX8_add_55 : decode cX8_add 55 = .ok (.dup, 1) := by decide +kernel
theorem dX8_add_56 : decode cX8_add 56 = .ok (.getfield 18, 3) := by decide +kernel
theorem dX8_add_59 : decode cX8_add 59 = .ok (.iconst 1, 1) := by decide +kernel
theorem dX8_add_60 : decode cX8_add 60 = .ok (.iadd, 1) := by decide +kernel
theorem dX8_add_61 : decode cX8_add 61 = .ok (.putfield 18, 3) := by decide +kernel
theorem dX8_add_64 : decode cX8_add 64 = .ok (.iconst 1, 1) := by decide +kernel
theorem dX8_add_65 : decode cX8_add 65 = .ok (.ireturn, 1) := by decide +kernel
theorem dX8_agree_0 : decode cX8_agree 0 = .ok (.iconst 0, 1) := by decide +kernel
theorem dX8_agree_1 : decode cX8_agree 1 = .ok (.istore_n 2, 1) := by decide +kernel
theorem dX8_agree_2 : decode cX8_agree 2 = .ok (.iload_n 2, 1) := by decide +kernel
theorem dX8_agree_3 : decode cX8_agree 3 = .ok (.aload_n 0, 1) := by decide +kernel
theorem dX8_agree_4 : decode cX8_agree 4 = .ok (.getfield 18, 3) := by decide +kernel
theorem dX8_agree_7 : decode cX8_agree 7 = .ok (.if_icmp .ge 60, 3) := by decide +kernel
theorem dX8_agree_10 : decode cX8_agree 10 = .ok (.iconst 0, 1) := by decide +kernel
theorem dX8_agree_11 : decode cX8_agree 11 = .ok (.istore_n 3, 1) := by decide +kernel
theorem dX8_agree_12 : decode cX8_agree 12 = .ok (.iload_n 3, 1) := by decide +kernel
theorem dX8_agree_13 : decode cX8_agree 13 = .ok (.aload_n 0, 1) := by decide +kernel
theorem dX8_agree_14 : decode cX8_agree 14 = .ok (.getfield 18, 3) := by decide +kernel
theorem dX8_agree_17 : decode cX8_agree 17 = .ok (.if_icmp .ge 44, 3) := by decide +kernel
theorem dX8_agree_20 : decode cX8_agree 20 = .ok (.aload_n 0, 1) := by decide +kernel
theorem dX8_agree_21 : decode cX8_agree 21 = .ok (.getfield 15, 3) := by decide +kernel
theorem dX8_agree_24 : decode cX8_agree 24 = .ok (.iload_n 2, 1) := by decide +kernel
theorem dX8_agree_25 : decode cX8_agree 25 = .ok (.iaload, 1) := by decide +kernel
theorem dX8_agree_26 : decode cX8_agree 26 = .ok (.iload_n 1, 1) := by decide +kernel
theorem dX8_agree_27 : decode cX8_agree 27 = .ok (.isub, 1) := by decide +kernel
theorem dX8_agree_28 : decode cX8_agree 28 = .ok (.aload_n 0, 1) := by decide +kernel
theorem dX8_agree_29 : decode cX8_agree 29 = .ok (.getfield 9, 3) := by decide +kernel
theorem dX8_agree_32 : decode cX8_agree 32 = .ok (.iload_n 3, 1) := by decide +kernel
theorem dX8_agree_33 : decode cX8_agree 33 = .ok (.iaload, 1) := by decide +kernel
theorem dX8_agree_34 : decode cX8_agree 34 = .ok (.imul, 1) := by decide +kernel
theorem dX8_agree_35 : decode cX8_agree 35 = .ok (.aload_n 0, 1) := by decide +kernel
theorem dX8_agree_36 : decode cX8_agree 36 = .ok (.getfield 15, 3) := by decide +kernel
theorem dX8_agree_39 : decode cX8_agree 39 = .ok (.iload_n 3, 1) := by decide +kernel
theorem dX8_agree_40 : decode cX8_agree 40 = .ok (.iaload, 1) := by decide +kernel
theorem dX8_agree_41 : decode cX8_agree 41 = .ok (.iload_n 1, 1) := by decide +kernel
theorem dX8_agree_42 : decode cX8_agree 42 = .ok (.iadd, 1) := by decide +kernel
theorem dX8_agree_43 : decode cX8_agree 43 = .ok (.aload_n 0, 1) := by decide +kernel
theorem dX8_agree_44 : decode cX8_agree 44 = .ok (.getfield 9, 3) := by decide +kernel
theorem dX8_agree_47 : decode cX8_agree 47 = .ok (.iload_n 2, 1) := by decide +kernel
theorem dX8_agree_48 : decode cX8_agree 48 = .ok (.iaload, 1) := by decide +kernel
theorem dX8_agree_49 : decode cX8_agree 49 = .ok (.imul, 1) := by decide +kernel
theorem dX8_agree_50 : decode cX8_agree 50 = .ok (.if_icmp .le 5, 3) := by decide +kernel
theorem dX8_agree_53 : decode cX8_agree 53 = .ok (.iconst 0, 1) := by decide +kernel
theorem dX8_agree_54 : decode cX8_agree 54 = .ok (.ireturn, 1) := by decide +kernel
theorem dX8_agree_55 : decode cX8_agree 55 = .ok (.iinc 3 1, 3) := by decide +kernel
theorem dX8_agree_58 : decode cX8_agree 58 = .ok (.goto (-46), 3) := by decide +kernel
theorem dX8_agree_61 : decode cX8_agree 61 = .ok (.iinc 2 1, 3) := by decide +kernel
theorem dX8_agree_64 : decode cX8_agree 64 = .ok (.goto (-62), 3) := by decide +kernel
theorem dX8_agree_67 : decode cX8_agree 67 = .ok (.aload_n 0, 1) := by decide +kernel
theorem dX8_agree_68 : decode cX8_agree 68 = .ok (.getfield 18, 3) := by decide +kernel
theorem dX8_agree_71 : decode cX8_agree 71 = .ok (.ifCond .le 7, 3) := by decide +kernel
theorem dX8_agree_74 : decode cX8_agree 74 = .ok (.iconst 1, 1) := by decide +kernel
theorem dX8_agree_75 : decode cX8_agree 75 = .ok (.goto 4, 3) := by decide +kernel
theorem dX8_agree_78 : decode cX8_agree 78 = .ok (.iconst 0, 1) := by decide +kernel
theorem dX8_agree_79 : decode cX8_agree 79 = .ok (.ireturn, 1) := by decide +kernel
theorem dX8_least_0 : decode cX8_least 0 = .ok (.iconst 0, 1) := by decide +kernel
theorem dX8_least_1 : decode cX8_least 1 = .ok (.istore_n 2, 1) := by decide +kernel
theorem dX8_least_2 : decode cX8_least 2 = .ok (.iconst 0, 1) := by decide +kernel
theorem dX8_least_3 : decode cX8_least 3 = .ok (.istore_n 3, 1) := by decide +kernel
theorem dX8_least_4 : decode cX8_least 4 = .ok (.iload_n 3, 1) := by decide +kernel
theorem dX8_least_5 : decode cX8_least 5 = .ok (.aload_n 0, 1) := by decide +kernel
theorem dX8_least_6 : decode cX8_least 6 = .ok (.getfield 18, 3) := by decide +kernel
theorem dX8_least_9 : decode cX8_least 9 = .ok (.if_icmp .ge 37, 3) := by decide +kernel
theorem dX8_least_12 : decode cX8_least 12 = .ok (.iload_n 2, 1) := by decide +kernel
theorem dX8_least_13 : decode cX8_least 13 = .ok (.ldc2_w 22, 3) := by decide +kernel
theorem dX8_least_16 : decode cX8_least 16 = .ok (.aload_n 0, 1) := by decide +kernel
theorem dX8_least_17 : decode cX8_least 17 = .ok (.getfield 15, 3) := by decide +kernel
theorem dX8_least_20 : decode cX8_least 20 = .ok (.iload_n 3, 1) := by decide +kernel
theorem dX8_least_21 : decode cX8_least 21 = .ok (.iaload, 1) := by decide +kernel
theorem dX8_least_22 : decode cX8_least 22 = .ok (.iload_n 1, 1) := by decide +kernel
theorem dX8_least_23 : decode cX8_least 23 = .ok (.isub, 1) := by decide +kernel
theorem dX8_least_24 : decode cX8_least 24 = .ok (.i2l, 1) := by decide +kernel
theorem dX8_least_25 : decode cX8_least 25 = .ok (.lmul, 1) := by decide +kernel
theorem dX8_least_26 : decode cX8_least 26 = .ok (.aload_n 0, 1) := by decide +kernel
theorem dX8_least_27 : decode cX8_least 27 = .ok (.getfield 9, 3) := by decide +kernel
theorem dX8_least_30 : decode cX8_least 30 = .ok (.iload_n 3, 1) := by decide +kernel
theorem dX8_least_31 : decode cX8_least 31 = .ok (.iaload, 1) := by decide +kernel
theorem dX8_least_32 : decode cX8_least 32 = .ok (.i2l, 1) := by decide +kernel
theorem dX8_least_33 : decode cX8_least 33 = .ok (.invokestatic 24, 3) := by decide +kernel
theorem dX8_least_36 : decode cX8_least 36 = .ok (.invokestatic 28, 3) := by decide +kernel
theorem dX8_least_39 : decode cX8_least 39 = .ok (.istore_n 2, 1) := by decide +kernel
theorem dX8_least_40 : decode cX8_least 40 = .ok (.iinc 3 1, 3) := by decide +kernel
theorem dX8_least_43 : decode cX8_least 43 = .ok (.goto (-39), 3) := by decide +kernel
theorem dX8_least_46 : decode cX8_least 46 = .ok (.iload_n 2, 1) := by decide +kernel
theorem dX8_least_47 : decode cX8_least 47 = .ok (.ireturn, 1) := by decide +kernel
theorem dX8_greatest_0 : decode cX8_greatest 0 = .ok (.ldc 36, 2) := by decide +kernel
theorem dX8_greatest_2 : decode cX8_greatest 2 = .ok (.istore_n 2, 1) := by decide +kernel
theorem dX8_greatest_3 : decode cX8_greatest 3 = .ok (.iconst 0, 1) := by decide +kernel
theorem dX8_greatest_4 : decode cX8_greatest 4 = .ok (.istore_n 3, 1) := by decide +kernel
theorem dX8_greatest_5 : decode cX8_greatest 5 = .ok (.iload_n 3, 1) := by decide +kernel
theorem dX8_greatest_6 : decode cX8_greatest 6 = .ok (.aload_n 0, 1) := by decide +kernel
theorem dX8_greatest_7 : decode cX8_greatest 7 = .ok (.getfield 18, 3) := by decide +kernel
theorem dX8_greatest_10 : decode cX8_greatest 10 = .ok (.if_icmp .ge 37, 3) := by decide +kernel
theorem dX8_greatest_13 : decode cX8_greatest 13 = .ok (.iload_n 2, 1) := by decide +kernel
theorem dX8_greatest_14 : decode cX8_greatest 14 = .ok (.ldc2_w 22, 3) := by decide +kernel
theorem dX8_greatest_17 : decode cX8_greatest 17 = .ok (.aload_n 0, 1) := by decide +kernel
theorem dX8_greatest_18 : decode cX8_greatest 18 = .ok (.getfield 15, 3) := by decide +kernel
theorem dX8_greatest_21 : decode cX8_greatest 21 = .ok (.iload_n 3, 1) := by decide +kernel
theorem dX8_greatest_22 : decode cX8_greatest 22 = .ok (.iaload, 1) := by decide +kernel
theorem dX8_greatest_23 : decode cX8_greatest 23 = .ok (.iload_n 1, 1) := by decide +kernel
theorem dX8_greatest_24 : decode cX8_greatest 24 = .ok (.iadd, 1) := by decide +kernel
theorem dX8_greatest_25 : decode cX8_greatest 25 = .ok (.i2l, 1) := by decide +kernel
theorem dX8_greatest_26 : decode cX8_greatest 26 = .ok (.lmul, 1) := by decide +kernel
theorem dX8_greatest_27 : decode cX8_greatest 27 = .ok (.aload_n 0, 1) := by decide +kernel
theorem dX8_greatest_28 : decode cX8_greatest 28 = .ok (.getfield 9, 3) := by decide +kernel
theorem dX8_greatest_31 : decode cX8_greatest 31 = .ok (.iload_n 3, 1) := by decide +kernel
theorem dX8_greatest_32 : decode cX8_greatest 32 = .ok (.iaload, 1) := by decide +kernel
theorem dX8_greatest_33 : decode cX8_greatest 33 = .ok (.i2l, 1) := by decide +kernel
theorem dX8_greatest_34 : decode cX8_greatest 34 = .ok (.invokestatic 37, 3) := by decide +kernel
theorem dX8_greatest_37 : decode cX8_greatest 37 = .ok (.invokestatic 40, 3) := by decide +kernel
theorem dX8_greatest_40 : decode cX8_greatest 40 = .ok (.istore_n 2, 1) := by decide +kernel
theorem dX8_greatest_41 : decode cX8_greatest 41 = .ok (.iinc 3 1, 3) := by decide +kernel
theorem dX8_greatest_44 : decode cX8_greatest 44 = .ok (.goto (-39), 3) := by decide +kernel
theorem dX8_greatest_47 : decode cX8_greatest 47 = .ok (.iload_n 2, 1) := by decide +kernel
theorem dX8_greatest_48 : decode cX8_greatest 48 = .ok (.ireturn, 1) := by decide +kernel
theorem dX9_init_0 : decode cX9_init 0 = .ok (.aload_n 0, 1) := by decide +kernel
theorem dX9_init_1 : decode cX9_init 1 = .ok (.invokespecial 3, 3) := by decide +kernel
theorem dX9_init_4 : decode cX9_init 4 = .ok (.aload_n 0, 1) := by decide +kernel
theorem dX9_init_5 : decode cX9_init 5 = .ok (.bipush 40, 2) := by decide +kernel
theorem dX9_init_7 : decode cX9_init 7 = .ok (.newarray .int, 2) := by decide +kernel
theorem dX9_init_9 : decode cX9_init 9 = .ok (.putfield 9, 3) := by decide +kernel
theorem dX9_init_12 : decode cX9_init 12 = .ok (.aload_n 0, 1) := by decide +kernel
theorem dX9_init_13 : decode cX9_init 13 = .ok (.bipush 40, 2) := by decide +kernel
theorem dX9_init_15 : decode cX9_init 15 = .ok (.newarray .int, 2) := by decide +kernel
theorem dX9_init_17 : decode cX9_init 17 = .ok (.putfield 15, 3) := by decide +kernel
theorem dX9_init_20 : decode cX9_init 20 = .ok (.aload_n 0, 1) := by decide +kernel
theorem dX9_init_21 : decode cX9_init 21 = .ok (.bipush 40, 2) := by decide +kernel
theorem dX9_init_23 : decode cX9_init 23 = .ok (.newarray .int, 2) := by decide +kernel
theorem dX9_init_25 : decode cX9_init 25 = .ok (.putfield 18, 3) := by decide +kernel
theorem dX9_init_28 : decode cX9_init 28 = .ok (.aload_n 0, 1) := by decide +kernel
theorem dX9_init_29 : decode cX9_init 29 = .ok (.bipush 40, 2) := by decide +kernel
theorem dX9_init_31 : decode cX9_init 31 = .ok (.newarray .int, 2) := by decide +kernel
theorem dX9_init_33 : decode cX9_init 33 = .ok (.putfield 21, 3) := by decide +kernel
theorem dX9_init_36 : decode cX9_init 36 = .ok (.aload_n 0, 1) := by decide +kernel
theorem dX9_init_37 : decode cX9_init 37 = .ok (.bipush 40, 2) := by decide +kernel
theorem dX9_init_39 : decode cX9_init 39 = .ok (.newarray .int, 2) := by decide +kernel
theorem dX9_init_41 : decode cX9_init 41 = .ok (.putfield 24, 3) := by decide +kernel
theorem dX9_init_44 : decode cX9_init 44 = .ok (.aload_n 0, 1) := by decide +kernel
theorem dX9_init_45 : decode cX9_init 45 = .ok (.bipush 12, 2) := by decide +kernel
theorem dX9_init_47 : decode cX9_init 47 = .ok (.newarray .int, 2) := by decide +kernel
theorem dX9_init_49 : decode cX9_init 49 = .ok (.putfield 27, 3) := by decide +kernel
theorem dX9_init_52 : decode cX9_init 52 = .ok (.aload_n 0, 1) := by decide +kernel
theorem dX9_init_53 : decode cX9_init 53 = .ok (.bipush 12, 2) := by decide +kernel
theorem dX9_init_55 : decode cX9_init 55 = .ok (.newarray .int, 2) := by decide +kernel
theorem dX9_init_57 : decode cX9_init 57 = .ok (.putfield 30, 3) := by decide +kernel
theorem dX9_init_60 : decode cX9_init 60 = .ok (.aload_n 0, 1) := by decide +kernel
theorem dX9_init_61 : decode cX9_init 61 = .ok (.bipush 12, 2) := by decide +kernel
theorem dX9_init_63 : decode cX9_init 63 = .ok (.newarray .int, 2) := by decide +kernel
theorem dX9_init_65 : decode cX9_init 65 = .ok (.putfield 33, 3) := by decide +kernel
theorem dX9_init_68 : decode cX9_init 68 = .ok (.return_, 1) := by decide +kernel
theorem dX9_fill_0 : decode cX9_fill 0 = .ok (.iconst 0, 1) := by decide +kernel
theorem dX9_fill_1 : decode cX9_fill 1 = .ok (.istore 4, 2) := by decide +kernel
theorem dX9_fill_3 : decode cX9_fill 3 = .ok (.iload 4, 2) := by decide +kernel
theorem dX9_fill_5 : decode cX9_fill 5 = .ok (.aload_n 1, 1) := by decide +kernel
theorem dX9_fill_6 : decode cX9_fill 6 = .ok (.getfield 36, 3) := by decide +kernel
theorem dX9_fill_9 : decode cX9_fill 9 = .ok (.if_icmp .ge 52, 3) := by decide +kernel
theorem dX9_fill_12 : decode cX9_fill 12 = .ok (.aload_n 2, 1) := by decide +kernel
theorem dX9_fill_13 : decode cX9_fill 13 = .ok (.iload 4, 2) := by decide +kernel
theorem dX9_fill_15 : decode cX9_fill 15 = .ok (.invokevirtual 42, 3) := by decide +kernel
theorem dX9_fill_18 : decode cX9_fill 18 = .ok (.ifCond .eq 23, 3) := by decide +kernel
theorem dX9_fill_21 : decode cX9_fill 21 = .ok (.iload 4, 2) := by decide +kernel
theorem dX9_fill_23 : decode cX9_fill 23 = .ok (.ifCond .eq 14, 3) := by decide +kernel
theorem dX9_fill_26 : decode cX9_fill 26 = .ok (.aload_n 2, 1) := by decide +kernel
theorem dX9_fill_27 : decode cX9_fill 27 = .ok (.iload 4, 2) := by decide +kernel
theorem dX9_fill_29 : decode cX9_fill 29 = .ok (.iconst 1, 1) := by decide +kernel
theorem dX9_fill_30 : decode cX9_fill 30 = .ok (.isub, 1) := by decide +kernel
theorem dX9_fill_31 : decode cX9_fill 31 = .ok (.invokevirtual 42, 3) := by decide +kernel
theorem dX9_fill_34 : decode cX9_fill 34 = .ok (.ifCond .eq 7, 3) := by decide +kernel
theorem dX9_fill_37 : decode cX9_fill 37 = .ok (.iconst 1, 1) := by decide +kernel
theorem dX9_fill_38 : decode cX9_fill 38 = .ok (.goto 4, 3) := by decide +kernel
theorem dX9_fill_41 : decode cX9_fill 41 = .ok (.iconst 0, 1) := by decide +kernel
theorem dX9_fill_42 : decode cX9_fill 42 = .ok (.istore 5, 2) := by decide +kernel
theorem dX9_fill_44 : decode cX9_fill 44 = .ok (.aload_n 0, 1) := by decide +kernel
theorem dX9_fill_45 : decode cX9_fill 45 = .ok (.aload_n 1, 1) := by decide +kernel
theorem dX9_fill_46 : decode cX9_fill 46 = .ok (.aload_n 2, 1) := by decide +kernel
theorem dX9_fill_47 : decode cX9_fill 47 = .ok (.aload_n 3, 1) := by decide +kernel
theorem dX9_fill_48 : decode cX9_fill 48 = .ok (.iload 4, 2) := by decide +kernel
theorem dX9_fill_50 : decode cX9_fill 50 = .ok (.iload 5, 2) := by decide +kernel
theorem dX9_fill_52 : decode cX9_fill 52 = .ok (.invokevirtual 48, 3) := by decide +kernel
theorem dX9_fill_55 : decode cX9_fill 55 = .ok (.iinc 4 1, 3) := by decide +kernel
theorem dX9_fill_58 : decode cX9_fill 58 = .ok (.goto (-55), 3) := by decide +kernel
theorem dX9_fill_61 : decode cX9_fill 61 = .ok (.aload_n 0, 1) := by decide +kernel
theorem dX9_fill_62 : decode cX9_fill 62 = .ok (.aload_n 1, 1) := by decide +kernel
theorem dX9_fill_63 : decode cX9_fill 63 = .ok (.invokevirtual 52, 3) := by decide +kernel
theorem dX9_fill_66 : decode cX9_fill 66 = .ok (.return_, 1) := by decide +kernel
theorem dX9_fillLeaf_0 : decode cX9_fillLeaf 0 = .ok (.aload_n 0, 1) := by decide +kernel
theorem dX9_fillLeaf_1 : decode cX9_fillLeaf 1 = .ok (.getfield 9, 3) := by decide +kernel
theorem dX9_fillLeaf_4 : decode cX9_fillLeaf 4 = .ok (.iload 4, 2) := by decide +kernel
theorem dX9_fillLeaf_6 : decode cX9_fillLeaf 6 = .ok (.iconst 0, 1) := by decide +kernel
theorem dX9_fillLeaf_7 : decode cX9_fillLeaf 7 = .ok (.iastore, 1) := by decide +kernel
theorem dX9_fillLeaf_8 : decode cX9_fillLeaf 8 = .ok (.aload_n 0, 1) := by decide +kernel
theorem dX9_fillLeaf_9 : decode cX9_fillLeaf 9 = .ok (.getfield 15, 3) := by decide +kernel
theorem dX9_fillLeaf_12 : decode cX9_fillLeaf 12 = .ok (.iload 4, 2) := by decide +kernel
theorem dX9_fillLeaf_14 : decode cX9_fillLeaf 14 = .ok (.iconst 0, 1) := by decide +kernel
theorem dX9_fillLeaf_15 : decode cX9_fillLeaf 15 = .ok (.iastore, 1) := by decide +kernel
theorem dX9_fillLeaf_16 : decode cX9_fillLeaf 16 = .ok (.iload 5, 2) := by decide +kernel
theorem dX9_fillLeaf_18 : decode cX9_fillLeaf 18 = .ok (.ifCond .eq 101, 3) := by decide +kernel
theorem dX9_fillLeaf_21 : decode cX9_fillLeaf 21 = .ok (.iload 4, 2) := by decide +kernel
theorem dX9_fillLeaf_23 : decode cX9_fillLeaf 23 = .ok (.ifCond .ne 7, 3) := by decide +kernel
theorem dX9_fillLeaf_26 : decode cX9_fillLeaf 26 = .ok (.iconst 0, 1) := by decide +kernel
theorem dX9_fillLeaf_27 : decode cX9_fillLeaf 27 = .ok (.goto 16, 3) := by decide +kernel
theorem dX9_fillLeaf_30 : decode cX9_fillLeaf 30 = .ok (.aload_n 3, 1) := by decide +kernel
theorem dX9_fillLeaf_31 : decode cX9_fillLeaf 31 = .ok (.aload_n 1, 1) := by decide +kernel
theorem dX9_fillLeaf_32 : decode cX9_fillLeaf 32 = .ok (.aload_n 2, 1) := by decide +kernel
theorem dX9_fillLeaf_33 : decode cX9_fillLeaf 33 = .ok (.iload 4, 2) := by decide +kernel
theorem dX9_fillLeaf_35 : decode cX9_fillLeaf 35 = .ok (.iconst 1, 1) := by decide +kernel
theorem dX9_fillLeaf_36 : decode cX9_fillLeaf 36 = .ok (.isub, 1) := by decide +kernel
theorem dX9_fillLeaf_37 : decode cX9_fillLeaf 37 = .ok (.invokevirtual 56, 3) := by decide +kernel
theorem dX9_fillLeaf_40 : decode cX9_fillLeaf 40 = .ok (.invokevirtual 60, 3) := by decide +kernel
theorem dX9_fillLeaf_43 : decode cX9_fillLeaf 43 = .ok (.istore 6, 2) := by decide +kernel
theorem dX9_fillLeaf_45 : decode cX9_fillLeaf 45 = .ok (.iload 4, 2) := by decide +kernel
theorem dX9_fillLeaf_47 : decode cX9_fillLeaf 47 = .ok (.ifCond .ne 7, 3) := by decide +kernel
theorem dX9_fillLeaf_50 : decode cX9_fillLeaf 50 = .ok (.iconst 0, 1) := by decide +kernel
theorem dX9_fillLeaf_51 : decode cX9_fillLeaf 51 = .ok (.goto 16, 3) := by decide +kernel
theorem dX9_fillLeaf_54 : decode cX9_fillLeaf 54 = .ok (.aload_n 3, 1) := by decide +kernel
theorem dX9_fillLeaf_55 : decode cX9_fillLeaf 55 = .ok (.aload_n 1, 1) := by decide +kernel
theorem dX9_fillLeaf_56 : decode cX9_fillLeaf 56 = .ok (.aload_n 2, 1) := by decide +kernel
theorem dX9_fillLeaf_57 : decode cX9_fillLeaf 57 = .ok (.iload 4, 2) := by decide +kernel
theorem dX9_fillLeaf_59 : decode cX9_fillLeaf 59 = .ok (.iconst 1, 1) := by decide +kernel
theorem dX9_fillLeaf_60 : decode cX9_fillLeaf 60 = .ok (.isub, 1) := by decide +kernel
theorem dX9_fillLeaf_61 : decode cX9_fillLeaf 61 = .ok (.invokevirtual 66, 3) := by decide +kernel
theorem dX9_fillLeaf_64 : decode cX9_fillLeaf 64 = .ok (.invokevirtual 60, 3) := by decide +kernel
theorem dX9_fillLeaf_67 : decode cX9_fillLeaf 67 = .ok (.istore 7, 2) := by decide +kernel
theorem dX9_fillLeaf_69 : decode cX9_fillLeaf 69 = .ok (.aload_n 0, 1) := by decide +kernel
theorem dX9_fillLeaf_70 : decode cX9_fillLeaf 70 = .ok (.getfield 9, 3) := by decide +kernel
theorem dX9_fillLeaf_73 : decode cX9_fillLeaf 73 = .ok (.iload 4, 2) := by decide +kernel
theorem dX9_fillLeaf_75 : decode cX9_fillLeaf 75 = .ok (.aload_n 1, 1) := by decide +kernel
theorem dX9_fillLeaf_76 : decode cX9_fillLeaf 76 = .ok (.aload_n 2, 1) := by decide +kernel
theorem dX9_fillLeaf_77 : decode cX9_fillLeaf 77 = .ok (.iload 4, 2) := by decide +kernel
theorem dX9_fillLeaf_79 : decode cX9_fillLeaf 79 = .ok (.invokevirtual 66, 3) := by decide +kernel
theorem dX9_fillLeaf_82 : decode cX9_fillLeaf 82 = .ok (.iload 6, 2) := by decide +kernel
theorem dX9_fillLeaf_84 : decode cX9_fillLeaf 84 = .ok (.isub, 1) := by decide +kernel
theorem dX9_fillLeaf_85 : decode cX9_fillLeaf 85 = .ok (.aload_n 1, 1) := by decide +kernel
theorem dX9_fillLeaf_86 : decode cX9_fillLeaf 86 = .ok (.getfield 69, 3) := by decide +kernel
theorem dX9_fillLeaf_89 : decode cX9_fillLeaf 89 = .ok (.iload 4, 2) := by decide +kernel
theorem dX9_fillLeaf_91 : decode cX9_fillLeaf 91 = .ok (.iaload, 1) := by decide +kernel
theorem dX9_fillLeaf_92 : decode cX9_fillLeaf 92 = .ok (.isub, 1) := by decide +kernel
theorem dX9_fillLeaf_93 : decode cX9_fillLeaf 93 = .ok (.iastore, 1) := by decide +kernel
theorem dX9_fillLeaf_94 : decode cX9_fillLeaf 94 = .ok (.aload_n 0, 1) := by decide +kernel
theorem dX9_fillLeaf_95 : decode cX9_fillLeaf 95 = .ok (.getfield 15, 3) := by decide +kernel
theorem dX9_fillLeaf_98 : decode cX9_fillLeaf 98 = .ok (.iload 4, 2) := by decide +kernel
theorem dX9_fillLeaf_100 : decode cX9_fillLeaf 100 = .ok (.aload_n 1, 1) := by decide +kernel
theorem dX9_fillLeaf_101 : decode cX9_fillLeaf 101 = .ok (.aload_n 2, 1) := by decide +kernel
theorem dX9_fillLeaf_102 : decode cX9_fillLeaf 102 = .ok (.iload 4, 2) := by decide +kernel
theorem dX9_fillLeaf_104 : decode cX9_fillLeaf 104 = .ok (.invokevirtual 56, 3) := by decide +kernel
theorem dX9_fillLeaf_107 : decode cX9_fillLeaf 107 = .ok (.iload 7, 2) := by decide +kernel
theorem dX9_fillLeaf_109 : decode cX9_fillLeaf 109 = .ok (.isub, 1) := by decide +kernel
theorem dX9_fillLeaf_110 : decode cX9_fillLeaf 110 = .ok (.aload_n 1, 1) := by decide +kernel
theorem dX9_fillLeaf_111 : decode cX9_fillLeaf 111 = .ok (.getfield 69, 3) := by decide +kernel
theorem dX9_fillLeaf_114 : decode cX9_fillLeaf 114 = .ok (.iload 4, 2) := by decide +kernel
theorem dX9_fillLeaf_116 : decode cX9_fillLeaf 116 = .ok (.iaload, 1) := by decide +kernel
theorem dX9_fillLeaf_117 : decode cX9_fillLeaf 117 = .ok (.isub, 1) := by decide +kernel
theorem dX9_fillLeaf_118 : decode cX9_fillLeaf 118 = .ok (.iastore, 1) := by decide +kernel
theorem dX9_fillLeaf_119 : decode cX9_fillLeaf 119 = .ok (.aload_n 0, 1) := by decide +kernel
theorem dX9_fillLeaf_120 : decode cX9_fillLeaf 120 = .ok (.getfield 18, 3) := by decide +kernel
theorem dX9_fillLeaf_123 : decode cX9_fillLeaf 123 = .ok (.iload 4, 2) := by decide +kernel
theorem dX9_fillLeaf_125 : decode cX9_fillLeaf 125 = .ok (.iconst 0, 1) := by decide +kernel
theorem dX9_fillLeaf_126 : decode cX9_fillLeaf 126 = .ok (.aload_n 0, 1) := by decide +kernel
theorem dX9_fillLeaf_127 : decode cX9_fillLeaf 127 = .ok (.getfield 9, 3) := by decide +kernel
theorem dX9_fillLeaf_130 : decode cX9_fillLeaf 130 = .ok (.iload 4, 2) := by decide +kernel
theorem dX9_fillLeaf_132 : decode cX9_fillLeaf 132 = .ok (.iaload, 1) := by decide +kernel
theorem dX9_fillLeaf_133 : decode cX9_fillLeaf 133 = .ok (.invokestatic 72, 3) := by decide +kernel
theorem dX9_fillLeaf_136 : decode cX9_fillLeaf 136 = .ok (.i2l, 1) := by decide +kernel
theorem dX9_fillLeaf_137 : decode cX9_fillLeaf 137 = .ok (.aload_n 3, 1) := by decide +kernel
theorem dX9_fillLeaf_138 : decode cX9_fillLeaf 138 = .ok (.getfield 78, 3) := by decide +kernel
theorem dX9_fillLeaf_141 : decode cX9_fillLeaf 141 = .ok (.i2l, 1) := by decide +kernel
theorem dX9_fillLeaf_142 : decode cX9_fillLeaf 142 = .ok (.invokestatic 81, 3) := by decide +kernel
theorem dX9_fillLeaf_145 : decode cX9_fillLeaf 145 = .ok (.iastore, 1) := by decide +kernel
theorem dX9_fillLeaf_146 : decode cX9_fillLeaf 146 = .ok (.aload_n 0, 1) := by decide +kernel
theorem dX9_fillLeaf_147 : decode cX9_fillLeaf 147 = .ok (.getfield 21, 3) := by decide +kernel
theorem dX9_fillLeaf_150 : decode cX9_fillLeaf 150 = .ok (.iload 4, 2) := by decide +kernel
theorem dX9_fillLeaf_152 : decode cX9_fillLeaf 152 = .ok (.aload_n 0, 1) := by decide +kernel
theorem dX9_fillLeaf_153 : decode cX9_fillLeaf 153 = .ok (.getfield 15, 3) := by decide +kernel
theorem dX9_fillLeaf_156 : decode cX9_fillLeaf 156 = .ok (.iload 4, 2) := by decide +kernel
theorem dX9_fillLeaf_158 : decode cX9_fillLeaf 158 = .ok (.iaload, 1) := by decide +kernel
theorem dX9_fillLeaf_159 : decode cX9_fillLeaf 159 = .ok (.i2l, 1) := by decide +kernel
theorem dX9_fillLeaf_160 : decode cX9_fillLeaf 160 = .ok (.aload_n 3, 1) := by decide +kernel
theorem dX9_fillLeaf_161 : decode cX9_fillLeaf 161 = .ok (.getfield 78, 3) := by decide +kernel
theorem dX9_fillLeaf_164 : decode cX9_fillLeaf 164 = .ok (.i2l, 1) := by decide +kernel
theorem dX9_fillLeaf_165 : decode cX9_fillLeaf 165 = .ok (.invokestatic 85, 3) := by decide +kernel
theorem dX9_fillLeaf_168 : decode cX9_fillLeaf 168 = .ok (.iastore, 1) := by decide +kernel
theorem dX9_fillLeaf_169 : decode cX9_fillLeaf 169 = .ok (.aload_n 0, 1) := by decide +kernel
theorem dX9_fillLeaf_170 : decode cX9_fillLeaf 170 = .ok (.getfield 24, 3) := by decide +kernel
theorem dX9_fillLeaf_173 : decode cX9_fillLeaf 173 = .ok (.iload 4, 2) := by decide +kernel
theorem dX9_fillLeaf_175 : decode cX9_fillLeaf 175 = .ok (.aload_n 0, 1) := by decide +kernel
theorem dX9_fillLeaf_176 : decode cX9_fillLeaf 176 = .ok (.iload 4, 2) := by decide +kernel
theorem dX9_fillLeaf_178 : decode cX9_fillLeaf 178 = .ok (.invokevirtual 88, 3) := by decide +kernel
theorem dX9_fillLeaf_181 : decode cX9_fillLeaf 181 = .ok (.ifCond .eq 7, 3) := by decide +kernel
theorem dX9_fillLeaf_184 : decode cX9_fillLeaf 184 = .ok (.iconst 0, 1) := by decide +kernel
theorem dX9_fillLeaf_185 : decode cX9_fillLeaf 185 = .ok (.goto 18, 3) := by decide +kernel
theorem dX9_fillLeaf_188 : decode cX9_fillLeaf 188 = .ok (.aload_n 0, 1) := by decide +kernel
theorem dX9_fillLeaf_189 : decode cX9_fillLeaf 189 = .ok (.getfield 18, 3) := by decide +kernel
theorem dX9_fillLeaf_192 : decode cX9_fillLeaf 192 = .ok (.iload 4, 2) := by decide +kernel
theorem dX9_fillLeaf_194 : decode cX9_fillLeaf 194 = .ok (.iaload, 1) := by decide +kernel
theorem dX9_fillLeaf_195 : decode cX9_fillLeaf 195 = .ok (.aload_n 0, 1) := by decide +kernel
theorem dX9_fillLeaf_196 : decode cX9_fillLeaf 196 = .ok (.getfield 21, 3) := by decide +kernel
theorem dX9_fillLeaf_199 : decode cX9_fillLeaf 199 = .ok (.iload 4, 2) := by decide +kernel
theorem dX9_fillLeaf_201 : decode cX9_fillLeaf 201 = .ok (.iaload, 1) := by decide +kernel
theorem dX9_fillLeaf_202 : decode cX9_fillLeaf 202 = .ok (.iadd, 1) := by decide +kernel
theorem dX9_fillLeaf_203 : decode cX9_fillLeaf 203 = .ok (.iastore, 1) := by decide +kernel
theorem dX9_fillLeaf_204 : decode cX9_fillLeaf 204 = .ok (.return_, 1) := by decide +kernel
theorem dX9_fillLights_0 : decode cX9_fillLights 0 = .ok (.aload_n 0, 1) := by decide +kernel
theorem dX9_fillLights_1 : decode cX9_fillLights 1 = .ok (.getfield 27, 3) := by decide +kernel
theorem dX9_fillLights_4 : decode cX9_fillLights 4 = .ok (.iconst 0, 1) := by decide +kernel
theorem dX9_fillLights_5 : decode cX9_fillLights 5 = .ok (.invokestatic 91, 3) := by decide +kernel
theorem dX9_fillLights_8 : decode cX9_fillLights 8 = .ok (.aload_n 0, 1) := by decide +kernel
theorem dX9_fillLights_9 : decode cX9_fillLights 9 = .ok (.getfield 30, 3) := by decide +kernel
theorem dX9_fillLights_12 : decode cX9_fillLights 12 = .ok (.iconst 0, 1) := by decide +kernel
theorem dX9_fillLights_13 : decode cX9_fillLights 13 = .ok (.invokestatic 91, 3) := by decide +kernel
theorem dX9_fillLights_16 : decode cX9_fillLights 16 = .ok (.iconst 0, 1) := by decide +kernel
theorem dX9_fillLights_17 : decode cX9_fillLights 17 = .ok (.istore_n 2, 1) := by decide +kernel
theorem dX9_fillLights_18 : decode cX9_fillLights 18 = .ok (.iload_n 2, 1) := by decide +kernel
theorem dX9_fillLights_19 : decode cX9_fillLights 19 = .ok (.aload_n 1, 1) := by decide +kernel
theorem dX9_fillLights_20 : decode cX9_fillLights 20 = .ok (.getfield 36, 3) := by decide +kernel
theorem dX9_fillLights_23 : decode cX9_fillLights 23 = .ok (.if_icmp .ge 44, 3) := by decide +kernel
theorem dX9_fillLights_26 : decode cX9_fillLights 26 = .ok (.aload_n 0, 1) := by decide +kernel
theorem dX9_fillLights_27 : decode cX9_fillLights 27 = .ok (.getfield 27, 3) := by decide +kernel
theorem dX9_fillLights_30 : decode cX9_fillLights 30 = .ok (.aload_n 1, 1) := by decide +kernel
theorem dX9_fillLights_31 : decode cX9_fillLights 31 = .ok (.getfield 97, 3) := by decide +kernel
theorem dX9_fillLights_34 : decode cX9_fillLights 34 = .ok (.iload_n 2, 1) := by decide +kernel
theorem dX9_fillLights_35 : decode cX9_fillLights 35 = .ok (.iaload, 1) := by decide +kernel
theorem dX9_fillLights_36 : decode cX9_fillLights 36 = .ok (.dup2, 1) := by decide +kernel
theorem dX9_fillLights_37 : decode cX9_fillLights 37 = .ok (.iaload, 1) := by decide +kernel
theorem dX9_fillLights_38 : decode cX9_fillLights 38 = .ok (.aload_n 0, 1) := by decide +kernel
theorem dX9_fillLights_39 : decode cX9_fillLights 39 = .ok (.getfield 24, 3) := by decide +kernel
theorem dX9_fillLights_42 : decode cX9_fillLights 42 = .ok (.iload_n 2, 1) := by decide +kernel
theorem dX9_fillLights_43 : decode cX9_fillLights 43 = .ok (.iaload, 1) := by decide +kernel
theorem dX9_fillLights_44 : decode cX9_fillLights 44 = .ok (.iadd, 1) := by decide +kernel
theorem dX9_fillLights_45 : decode cX9_fillLights 45 = .ok (.iastore, 1) := by decide +kernel
theorem dX9_fillLights_46 : decode cX9_fillLights 46 = .ok (.aload_n 0, 1) := by decide +kernel
theorem dX9_fillLights_47 : decode cX9_fillLights 47 = .ok (.getfield 30, 3) := by decide +kernel
theorem dX9_fillLights_50 : decode cX9_fillLights 50 = .ok (.aload_n 1, 1) := by decide +kernel
theorem dX9_fillLights_51 : decode cX9_fillLights 51 = .ok (.getfield 97, 3) := by decide +kernel
theorem dX9_fillLights_54 : decode cX9_fillLights 54 = .ok (.iload_n 2, 1) := by decide +kernel
theorem dX9_fillLights_55 : decode cX9_fillLights 55 = .ok (.iaload, 1) := by decide +kernel
theorem dX9_fillLights_56 : decode cX9_fillLights 56 = .ok (.dup2, 1) := by decide +kernel
theorem dX9_fillLights_57 : decode cX9_fillLights 57 = .ok (.iaload, 1) := by decide +kernel
theorem dX9_fillLights_58 : decode cX9_fillLights 58 = .ok (.iconst 1, 1) := by decide +kernel
theorem dX9_fillLights_59 : decode cX9_fillLights 59 = .ok (.iadd, 1) := by decide +kernel
theorem dX9_fillLights_60 : decode cX9_fillLights 60 = .ok (.iastore, 1) := by decide +kernel
theorem dX9_fillLights_61 : decode cX9_fillLights 61 = .ok (.iinc 2 1, 3) := by decide +kernel
theorem dX9_fillLights_64 : decode cX9_fillLights 64 = .ok (.goto (-46), 3) := by decide +kernel
theorem dX9_fillLights_67 : decode cX9_fillLights 67 = .ok (.iconst 0, 1) := by decide +kernel
theorem dX9_fillLights_68 : decode cX9_fillLights 68 = .ok (.istore_n 2, 1) := by decide +kernel
theorem dX9_fillLights_69 : decode cX9_fillLights 69 = .ok (.iload_n 2, 1) := by decide +kernel
theorem dX9_fillLights_70 : decode cX9_fillLights 70 = .ok (.bipush 12, 2) := by decide +kernel
theorem dX9_fillLights_72 : decode cX9_fillLights 72 = .ok (.if_icmp .ge 36, 3) := by decide +kernel
theorem dX9_fillLights_75 : decode cX9_fillLights 75 = .ok (.aload_n 0, 1) := by decide +kernel
theorem dX9_fillLights_76 : decode cX9_fillLights 76 = .ok (.getfield 27, 3) := by decide +kernel
theorem dX9_fillLights_79 : decode cX9_fillLights 79 = .ok (.iload_n 2, 1) := by decide +kernel
theorem dX9_fillLights_80 : decode cX9_fillLights 80 = .ok (.aload_n 0, 1) := by decide +kernel
theorem dX9_fillLights_81 : decode cX9_fillLights 81 = .ok (.getfield 27, 3) := by decide +kernel
theorem dX9_fillLights_84 : decode cX9_fillLights 84 = .ok (.iload_n 2, 1) := by decide +kernel
theorem dX9_fillLights_85 : decode cX9_fillLights 85 = .ok (.iaload, 1) := by decide +kernel
theorem dX9_fillLights_86 : decode cX9_fillLights 86 = .ok (.i2l, 1) := by decide +kernel
theorem dX9_fillLights_87 : decode cX9_fillLights 87 = .ok (.ldc2_w 100, 3) := by decide +kernel
theorem dX9_fillLights_90 : decode cX9_fillLights 90 = .ok (.aload_n 0, 1) := by decide +kernel
theorem dX9_fillLights_91 : decode cX9_fillLights 91 = .ok (.getfield 30, 3) := by decide +kernel
theorem dX9_fillLights_94 : decode cX9_fillLights 94 = .ok (.iload_n 2, 1) := by decide +kernel
theorem dX9_fillLights_95 : decode cX9_fillLights 95 = .ok (.iaload, 1) := by decide +kernel
theorem dX9_fillLights_96 : decode cX9_fillLights 96 = .ok (.i2l, 1) := by decide +kernel
theorem dX9_fillLights_97 : decode cX9_fillLights 97 = .ok (.lmul, 1) := by decide +kernel
theorem dX9_fillLights_98 : decode cX9_fillLights 98 = .ok (.invokestatic 85, 3) := by decide +kernel
theorem dX9_fillLights_101 : decode cX9_fillLights 101 = .ok (.iastore, 1) := by decide +kernel
theorem dX9_fillLights_102 : decode cX9_fillLights 102 = .ok (.iinc 2 1, 3) := by decide +kernel
theorem dX9_fillLights_105 : decode cX9_fillLights 105 = .ok (.goto (-36), 3) := by decide +kernel
theorem dX9_fillLights_108 : decode cX9_fillLights 108 = .ok (.return_, 1) := by decide +kernel
theorem dX9_isStrange_0 : decode cX9_isStrange 0 = .ok (.aload_n 0, 1) := by decide +kernel
theorem dX9_isStrange_1 : decode cX9_isStrange 1 = .ok (.getfield 18, 3) := by decide +kernel
theorem dX9_isStrange_4 : decode cX9_isStrange 4 = .ok (.iload_n 1, 1) := by decide +kernel
theorem dX9_isStrange_5 : decode cX9_isStrange 5 = .ok (.iaload, 1) := by decide +kernel
theorem dX9_isStrange_6 : decode cX9_isStrange 6 = .ok (.aload_n 0, 1) := by decide +kernel
theorem dX9_isStrange_7 : decode cX9_isStrange 7 = .ok (.getfield 21, 3) := by decide +kernel
theorem dX9_isStrange_10 : decode cX9_isStrange 10 = .ok (.iload_n 1, 1) := by decide +kernel
theorem dX9_isStrange_11 : decode cX9_isStrange 11 = .ok (.iaload, 1) := by decide +kernel
theorem dX9_isStrange_12 : decode cX9_isStrange 12 = .ok (.if_icmp .le 7, 3) := by decide +kernel
theorem dX9_isStrange_15 : decode cX9_isStrange 15 = .ok (.iconst 1, 1) := by decide +kernel
theorem dX9_isStrange_16 : decode cX9_isStrange 16 = .ok (.goto 4, 3) := by decide +kernel
theorem dX9_isStrange_19 : decode cX9_isStrange 19 = .ok (.iconst 0, 1) := by decide +kernel
theorem dX9_isStrange_20 : decode cX9_isStrange 20 = .ok (.ireturn, 1) := by decide +kernel
theorem dX9_pairs_0 : decode cX9_pairs 0 = .ok (.iconst 0, 1) := by decide +kernel
theorem dX9_pairs_1 : decode cX9_pairs 1 = .ok (.istore_n 3, 1) := by decide +kernel
theorem dX9_pairs_2 : decode cX9_pairs 2 = .ok (.iconst 0, 1) := by decide +kernel
theorem dX9_pairs_3 : decode cX9_pairs 3 = .ok (.istore 4, 2) := by decide +kernel
theorem dX9_pairs_5 : decode cX9_pairs 5 = .ok (.iload 4, 2) := by decide +kernel
theorem dX9_pairs_7 : decode cX9_pairs 7 = .ok (.aload_n 1, 1) := by decide +kernel
theorem dX9_pairs_8 : decode cX9_pairs 8 = .ok (.getfield 36, 3) := by decide +kernel
theorem dX9_pairs_11 : decode cX9_pairs 11 = .ok (.if_icmp .ge 83, 3) := by decide +kernel
theorem dX9_pairs_14 : decode cX9_pairs 14 = .ok (.iload 4, 2) := by decide +kernel
theorem dX9_pairs_16 : decode cX9_pairs 16 = .ok (.iconst 1, 1) := by decide +kernel
theorem dX9_pairs_17 : decode cX9_pairs 17 = .ok (.iadd, 1) := by decide +kernel
theorem dX9_pairs_18 : decode cX9_pairs 18 = .ok (.istore 5, 2) := by decide +kernel
theorem dX9_pairs_20 : decode cX9_pairs 20 = .ok (.iload 5, 2) := by decide +kernel
theorem dX9_pairs_22 : decode cX9_pairs 22 = .ok (.aload_n 1, 1) := by decide +kernel
theorem dX9_pairs_23 : decode cX9_pairs 23 = .ok (.getfield 36, 3) := by decide +kernel
theorem dX9_pairs_26 : decode cX9_pairs 26 = .ok (.if_icmp .ge 62, 3) := by decide +kernel
theorem dX9_pairs_29 : decode cX9_pairs 29 = .ok (.aload_n 0, 1) := by decide +kernel
theorem dX9_pairs_30 : decode cX9_pairs 30 = .ok (.getfield 24, 3) := by decide +kernel
theorem dX9_pairs_33 : decode cX9_pairs 33 = .ok (.iload 4, 2) := by decide +kernel
theorem dX9_pairs_35 : decode cX9_pairs 35 = .ok (.iaload, 1) := by decide +kernel
theorem dX9_pairs_36 : decode cX9_pairs 36 = .ok (.aload_n 0, 1) := by decide +kernel
theorem dX9_pairs_37 : decode cX9_pairs 37 = .ok (.getfield 24, 3) := by decide +kernel
theorem dX9_pairs_40 : decode cX9_pairs 40 = .ok (.iload 5, 2) := by decide +kernel
theorem dX9_pairs_42 : decode cX9_pairs 42 = .ok (.iaload, 1) := by decide +kernel
theorem dX9_pairs_43 : decode cX9_pairs 43 = .ok (.invokestatic 102, 3) := by decide +kernel
theorem dX9_pairs_46 : decode cX9_pairs 46 = .ok (.istore 6, 2) := by decide +kernel
theorem dX9_pairs_48 : decode cX9_pairs 48 = .ok (.aload_n 1, 1) := by decide +kernel
theorem dX9_pairs_49 : decode cX9_pairs 49 = .ok (.getfield 105, 3) := by decide +kernel
theorem dX9_pairs_52 : decode cX9_pairs 52 = .ok (.iload 4, 2) := by decide +kernel
theorem dX9_pairs_54 : decode cX9_pairs 54 = .ok (.iaload, 1) := by decide +kernel
theorem dX9_pairs_55 : decode cX9_pairs 55 = .ok (.aload_n 1, 1) := by decide +kernel
theorem dX9_pairs_56 : decode cX9_pairs 56 = .ok (.getfield 105, 3) := by decide +kernel
theorem dX9_pairs_59 : decode cX9_pairs 59 = .ok (.iload 5, 2) := by decide +kernel
theorem dX9_pairs_61 : decode cX9_pairs 61 = .ok (.iaload, 1) := by decide +kernel
theorem dX9_pairs_62 : decode cX9_pairs 62 = .ok (.if_icmp .ne 20, 3) := by decide +kernel
theorem dX9_pairs_65 : decode cX9_pairs 65 = .ok (.iload 6, 2) := by decide +kernel
theorem dX9_pairs_67 : decode cX9_pairs 67 = .ok (.iload_n 2, 1) := by decide +kernel
theorem dX9_pairs_68 : decode cX9_pairs 68 = .ok (.ifCond .eq 7, 3) := by decide +kernel
theorem dX9_pairs_71 : decode cX9_pairs 71 = .ok (.iconst 1, 1) := by decide +kernel
theorem dX9_pairs_72 : decode cX9_pairs 72 = .ok (.goto 4, 3) := by decide +kernel
theorem dX9_pairs_75 : decode cX9_pairs 75 = .ok (.iconst (-1), 1) := by decide +kernel
theorem dX9_pairs_76 : decode cX9_pairs 76 = .ok (.if_icmp .ne 6, 3) := by decide +kernel
theorem dX9_pairs_79 : decode cX9_pairs 79 = .ok (.iinc 3 1, 3) := by decide +kernel
theorem dX9_pairs_82 : decode cX9_pairs 82 = .ok (.iinc 5 1, 3) := by decide +kernel
theorem dX9_pairs_85 : decode cX9_pairs 85 = .ok (.goto (-65), 3) := by decide +kernel
theorem dX9_pairs_88 : decode cX9_pairs 88 = .ok (.iinc 4 1, 3) := by decide +kernel
theorem dX9_pairs_91 : decode cX9_pairs 91 = .ok (.goto (-86), 3) := by decide +kernel
theorem dX9_pairs_94 : decode cX9_pairs 94 = .ok (.iload_n 3, 1) := by decide +kernel
theorem dX9_pairs_95 : decode cX9_pairs 95 = .ok (.ireturn, 1) := by decide +kernel
theorem dX9_apartFrom_0 : decode cX9_apartFrom 0 = .ok (.aload_n 0, 1) := by decide +kernel
theorem dX9_apartFrom_1 : decode cX9_apartFrom 1 = .ok (.getfield 33, 3) := by decide +kernel
theorem dX9_apartFrom_4 : decode cX9_apartFrom 4 = .ok (.iconst 0, 1) := by decide +kernel
theorem dX9_apartFrom_5 : decode cX9_apartFrom 5 = .ok (.invokestatic 91, 3) := by decide +kernel
theorem dX9_apartFrom_8 : decode cX9_apartFrom 8 = .ok (.iconst 0, 1) := by decide +kernel
theorem dX9_apartFrom_9 : decode cX9_apartFrom 9 = .ok (.istore_n 3, 1) := by decide +kernel
theorem dX9_apartFrom_10 : decode cX9_apartFrom 10 = .ok (.iload_n 3, 1) := by decide +kernel
theorem dX9_apartFrom_11 : decode cX9_apartFrom 11 = .ok (.aload_n 1, 1) := by decide +kernel
theorem dX9_apartFrom_12 : decode cX9_apartFrom 12 = .ok (.getfield 36, 3) := by decide +kernel
theorem dX9_apartFrom_15 : decode cX9_apartFrom 15 = .ok (.if_icmp .ge 39, 3) := by decide +kernel
theorem dX9_apartFrom_18 : decode cX9_apartFrom 18 = .ok (.aload_n 0, 1) := by decide +kernel
theorem dX9_apartFrom_19 : decode cX9_apartFrom 19 = .ok (.getfield 33, 3) := by decide +kernel
theorem dX9_apartFrom_22 : decode cX9_apartFrom 22 = .ok (.aload_n 1, 1) := by decide +kernel
theorem dX9_apartFrom_23 : decode cX9_apartFrom 23 = .ok (.getfield 97, 3) := by decide +kernel
theorem dX9_apartFrom_26 : decode cX9_apartFrom 26 = .ok (.iload_n 3, 1) := by decide +kernel
theorem dX9_apartFrom_27 : decode cX9_apartFrom 27 = .ok (.iaload, 1) := by decide +kernel
theorem dX9_apartFrom_28 : decode cX9_apartFrom 28 = .ok (.dup2, 1) := by decide +kernel
theorem dX9_apartFrom_29 : decode cX9_apartFrom 29 = .ok (.iaload, 1) := by decide +kernel
theorem dX9_apartFrom_30 : decode cX9_apartFrom 30 = .ok (.aload_n 2, 1) := by decide +kernel
theorem dX9_apartFrom_31 : decode cX9_apartFrom 31 = .ok (.aload_n 1, 1) := by decide +kernel
theorem dX9_apartFrom_32 : decode cX9_apartFrom 32 = .ok (.getfield 97, 3) := by decide +kernel
theorem dX9_apartFrom_35 : decode cX9_apartFrom 35 = .ok (.iload_n 3, 1) := by decide +kernel
theorem dX9_apartFrom_36 : decode cX9_apartFrom 36 = .ok (.iaload, 1) := by decide +kernel
theorem dX9_apartFrom_37 : decode cX9_apartFrom 37 = .ok (.aload_n 1, 1) := by decide +kernel
theorem dX9_apartFrom_38 : decode cX9_apartFrom 38 = .ok (.getfield 108, 3) := by decide +kernel
theorem dX9_apartFrom_41 : decode cX9_apartFrom 41 = .ok (.iload_n 3, 1) := by decide +kernel
theorem dX9_apartFrom_42 : decode cX9_apartFrom 42 = .ok (.iaload, 1) := by decide +kernel
theorem dX9_apartFrom_43 : decode cX9_apartFrom 43 = .ok (.invokevirtual 111, 3) := by decide +kernel
theorem dX9_apartFrom_46 : decode cX9_apartFrom 46 = .ok (.iadd, 1) := by decide +kernel
theorem dX9_apartFrom_47 : decode cX9_apartFrom 47 = .ok (.iastore, 1) := by decide +kernel
theorem dX9_apartFrom_48 : decode cX9_apartFrom 48 = .ok (.iinc 3 1, 3) := by decide +kernel
theorem dX9_apartFrom_51 : decode cX9_apartFrom 51 = .ok (.goto (-41), 3) := by decide +kernel
theorem dX9_apartFrom_54 : decode cX9_apartFrom 54 = .ok (.lconst 0, 1) := by decide +kernel
theorem dX9_apartFrom_55 : decode cX9_apartFrom 55 = .ok (.lstore_n 3, 1) := by decide +kernel
theorem dX9_apartFrom_56 : decode cX9_apartFrom 56 = .ok (.lconst 0, 1) := by decide +kernel
theorem dX9_apartFrom_57 : decode cX9_apartFrom 57 = .ok (.lstore 5, 2) := by decide +kernel
theorem dX9_apartFrom_59 : decode cX9_apartFrom 59 = .ok (.iconst 0, 1) := by decide +kernel
theorem dX9_apartFrom_60 : decode cX9_apartFrom 60 = .ok (.istore 7, 2) := by decide +kernel
theorem dX9_apartFrom_62 : decode cX9_apartFrom 62 = .ok (.iload 7, 2) := by decide +kernel
theorem dX9_apartFrom_64 : decode cX9_apartFrom 64 = .ok (.bipush 12, 2) := by decide +kernel
theorem dX9_apartFrom_66 : decode cX9_apartFrom 66 = .ok (.if_icmp .ge 59, 3) := by decide +kernel
theorem dX9_apartFrom_69 : decode cX9_apartFrom 69 = .ok (.aload_n 0, 1) := by decide +kernel
theorem dX9_apartFrom_70 : decode cX9_apartFrom 70 = .ok (.getfield 33, 3) := by decide +kernel
theorem dX9_apartFrom_73 : decode cX9_apartFrom 73 = .ok (.iload 7, 2) := by decide +kernel
theorem dX9_apartFrom_75 : decode cX9_apartFrom 75 = .ok (.aload_n 0, 1) := by decide +kernel
theorem dX9_apartFrom_76 : decode cX9_apartFrom 76 = .ok (.getfield 33, 3) := by decide +kernel
theorem dX9_apartFrom_79 : decode cX9_apartFrom 79 = .ok (.iload 7, 2) := by decide +kernel
theorem dX9_apartFrom_81 : decode cX9_apartFrom 81 = .ok (.iaload, 1) := by decide +kernel
theorem dX9_apartFrom_82 : decode cX9_apartFrom 82 = .ok (.i2l, 1) := by decide +kernel
theorem dX9_apartFrom_83 : decode cX9_apartFrom 83 = .ok (.aload_n 0, 1) := by decide +kernel
theorem dX9_apartFrom_84 : decode cX9_apartFrom 84 = .ok (.getfield 30, 3) := by decide +kernel
theorem dX9_apartFrom_87 : decode cX9_apartFrom 87 = .ok (.iload 7, 2) := by decide +kernel
theorem dX9_apartFrom_89 : decode cX9_apartFrom 89 = .ok (.iaload, 1) := by decide +kernel
theorem dX9_apartFrom_90 : decode cX9_apartFrom 90 = .ok (.i2l, 1) := by decide +kernel
theorem dX9_apartFrom_91 : decode cX9_apartFrom 91 = .ok (.invokestatic 85, 3) := by decide +kernel
theorem dX9_apartFrom_94 : decode cX9_apartFrom 94 = .ok (.iastore, 1) := by decide +kernel
theorem dX9_apartFrom_95 : decode cX9_apartFrom 95 = .ok (.lload_n 3, 1) := by decide +kernel
theorem dX9_apartFrom_96 : decode cX9_apartFrom 96 = .ok (.aload_n 0, 1) := by decide +kernel
theorem dX9_apartFrom_97 : decode cX9_apartFrom 97 = .ok (.getfield 33, 3) := by decide +kernel
theorem dX9_apartFrom_100 : decode cX9_apartFrom 100 = .ok (.iload 7, 2) := by decide +kernel
theorem dX9_apartFrom_102 : decode cX9_apartFrom 102 = .ok (.iaload, 1) := by decide +kernel
theorem dX9_apartFrom_103 : decode cX9_apartFrom 103 = .ok (.i2l, 1) := by decide +kernel
theorem dX9_apartFrom_104 : decode cX9_apartFrom 104 = .ok (.ladd, 1) := by decide +kernel
theorem dX9_apartFrom_105 : decode cX9_apartFrom 105 = .ok (.lstore_n 3, 1) := by decide +kernel
theorem dX9_apartFrom_106 : decode cX9_apartFrom 106 = .ok (.lload 5, 2) := by decide +kernel
theorem dX9_apartFrom_108 : decode cX9_apartFrom 108 = .ok (.aload_n 0, 1) := by decide +kernel
theorem dX9_apartFrom_109 : decode cX9_apartFrom 109 = .ok (.getfield 27, 3) := by decide +kernel
theorem dX9_apartFrom_112 : decode cX9_apartFrom 112 = .ok (.iload 7, 2) := by decide +kernel
theorem dX9_apartFrom_114 : decode cX9_apartFrom 114 = .ok (.iaload, 1) := by decide +kernel
theorem dX9_apartFrom_115 : decode cX9_apartFrom 115 = .ok (.i2l, 1) := by decide +kernel
theorem dX9_apartFrom_116 : decode cX9_apartFrom 116 = .ok (.ladd, 1) := by decide +kernel
theorem dX9_apartFrom_117 : decode cX9_apartFrom 117 = .ok (.lstore 5, 2) := by decide +kernel
theorem dX9_apartFrom_119 : decode cX9_apartFrom 119 = .ok (.iinc 7 1, 3) := by decide +kernel
theorem dX9_apartFrom_122 : decode cX9_apartFrom 122 = .ok (.goto (-60), 3) := by decide +kernel
theorem dX9_apartFrom_125 : decode cX9_apartFrom 125 = .ok (.lconst 0, 1) := by decide +kernel
theorem dX9_apartFrom_126 : decode cX9_apartFrom 126 = .ok (.lstore 7, 2) := by decide +kernel
theorem dX9_apartFrom_128 : decode cX9_apartFrom 128 = .ok (.iconst 0, 1) := by decide +kernel
theorem dX9_apartFrom_129 : decode cX9_apartFrom 129 = .ok (.istore 9, 2) := by decide +kernel
theorem dX9_apartFrom_131 : decode cX9_apartFrom 131 = .ok (.iload 9, 2) := by decide +kernel
theorem dX9_apartFrom_133 : decode cX9_apartFrom 133 = .ok (.bipush 12, 2) := by decide +kernel
theorem dX9_apartFrom_135 : decode cX9_apartFrom 135 = .ok (.if_icmp .ge 39, 3) := by decide +kernel
theorem dX9_apartFrom_138 : decode cX9_apartFrom 138 = .ok (.lload 7, 2) := by decide +kernel
theorem dX9_apartFrom_140 : decode cX9_apartFrom 140 = .ok (.aload_n 0, 1) := by decide +kernel
theorem dX9_apartFrom_141 : decode cX9_apartFrom 141 = .ok (.getfield 27, 3) := by decide +kernel
theorem dX9_apartFrom_144 : decode cX9_apartFrom 144 = .ok (.iload 9, 2) := by decide +kernel
theorem dX9_apartFrom_146 : decode cX9_apartFrom 146 = .ok (.iaload, 1) := by decide +kernel
theorem dX9_apartFrom_147 : decode cX9_apartFrom 147 = .ok (.i2l, 1) := by decide +kernel
theorem dX9_apartFrom_148 : decode cX9_apartFrom 148 = .ok (.lload_n 3, 1) := by decide +kernel
theorem dX9_apartFrom_149 : decode cX9_apartFrom 149 = .ok (.lmul, 1) := by decide +kernel
theorem dX9_apartFrom_150 : decode cX9_apartFrom 150 = .ok (.aload_n 0, 1) := by decide +kernel
theorem dX9_apartFrom_151 : decode cX9_apartFrom 151 = .ok (.getfield 33, 3) := by decide +kernel
theorem dX9_apartFrom_154 : decode cX9_apartFrom 154 = .ok (.iload 9, 2) := by decide +kernel
theorem dX9_apartFrom_156 : decode cX9_apartFrom 156 = .ok (.iaload, 1) := by decide +kernel
theorem dX9_apartFrom_157 : decode cX9_apartFrom 157 = .ok (.i2l, 1) := by decide +kernel
theorem dX9_apartFrom_158 : decode cX9_apartFrom 158 = .ok (.lload 5, 2) := by decide +kernel
theorem dX9_apartFrom_160 : decode cX9_apartFrom 160 = .ok (.lmul, 1) := by decide +kernel
theorem dX9_apartFrom_161 : decode cX9_apartFrom 161 = .ok (.lsub, 1) := by decide +kernel
theorem dX9_apartFrom_162 : decode cX9_apartFrom 162 = .ok (.invokestatic 116, 3) := by decide +kernel
theorem dX9_apartFrom_165 : decode cX9_apartFrom 165 = .ok (.ladd, 1) := by decide +kernel
theorem dX9_apartFrom_166 : decode cX9_apartFrom 166 = .ok (.lstore 7, 2) := by decide +kernel
theorem dX9_apartFrom_168 : decode cX9_apartFrom 168 = .ok (.iinc 9 1, 3) := by decide +kernel
theorem dX9_apartFrom_171 : decode cX9_apartFrom 171 = .ok (.goto (-40), 3) := by decide +kernel
theorem dX9_apartFrom_174 : decode cX9_apartFrom 174 = .ok (.lload 7, 2) := by decide +kernel
theorem dX9_apartFrom_176 : decode cX9_apartFrom 176 = .ok (.lreturn, 1) := by decide +kernel
theorem dX9_opensAt_0 : decode cX9_opensAt 0 = .ok (.aload_n 0, 1) := by decide +kernel
theorem dX9_opensAt_1 : decode cX9_opensAt 1 = .ok (.getfield 18, 3) := by decide +kernel
theorem dX9_opensAt_4 : decode cX9_opensAt 4 = .ok (.iload_n 2, 1) := by decide +kernel
theorem dX9_opensAt_5 : decode cX9_opensAt 5 = .ok (.iaload, 1) := by decide +kernel
theorem dX9_opensAt_6 : decode cX9_opensAt 6 = .ok (.aload_n 0, 1) := by decide +kernel
theorem dX9_opensAt_7 : decode cX9_opensAt 7 = .ok (.getfield 18, 3) := by decide +kernel
theorem dX9_opensAt_10 : decode cX9_opensAt 10 = .ok (.iload_n 2, 1) := by decide +kernel
theorem dX9_opensAt_11 : decode cX9_opensAt 11 = .ok (.iconst 1, 1) := by decide +kernel
theorem dX9_opensAt_12 : decode cX9_opensAt 12 = .ok (.iadd, 1) := by decide +kernel
theorem dX9_opensAt_13 : decode cX9_opensAt 13 = .ok (.iaload, 1) := by decide +kernel
theorem dX9_opensAt_14 : decode cX9_opensAt 14 = .ok (.invokestatic 120, 3) := by decide +kernel
theorem dX9_opensAt_17 : decode cX9_opensAt 17 = .ok (.istore_n 3, 1) := by decide +kernel
theorem dX9_opensAt_18 : decode cX9_opensAt 18 = .ok (.iconst 0, 1) := by decide +kernel
theorem dX9_opensAt_19 : decode cX9_opensAt 19 = .ok (.istore 4, 2) := by decide +kernel
theorem dX9_opensAt_21 : decode cX9_opensAt 21 = .ok (.iload 4, 2) := by decide +kernel
theorem dX9_opensAt_23 : decode cX9_opensAt 23 = .ok (.aload_n 1, 1) := by decide +kernel
theorem dX9_opensAt_24 : decode cX9_opensAt 24 = .ok (.getfield 36, 3) := by decide +kernel
theorem dX9_opensAt_27 : decode cX9_opensAt 27 = .ok (.if_icmp .ge 82, 3) := by decide +kernel
theorem dX9_opensAt_30 : decode cX9_opensAt 30 = .ok (.aload_n 1, 1) := by decide +kernel
theorem dX9_opensAt_31 : decode cX9_opensAt 31 = .ok (.getfield 105, 3) := by decide +kernel
theorem dX9_opensAt_34 : decode cX9_opensAt 34 = .ok (.iload 4, 2) := by decide +kernel
theorem dX9_opensAt_36 : decode cX9_opensAt 36 = .ok (.iaload, 1) := by decide +kernel
theorem dX9_opensAt_37 : decode cX9_opensAt 37 = .ok (.aload_n 1, 1) := by decide +kernel
theorem dX9_opensAt_38 : decode cX9_opensAt 38 = .ok (.getfield 105, 3) := by decide +kernel
theorem dX9_opensAt_41 : decode cX9_opensAt 41 = .ok (.iload_n 2, 1) := by decide +kernel
theorem dX9_opensAt_42 : decode cX9_opensAt 42 = .ok (.iaload, 1) := by decide +kernel
theorem dX9_opensAt_43 : decode cX9_opensAt 43 = .ok (.if_icmp .eq 21, 3) := by decide +kernel
theorem dX9_opensAt_46 : decode cX9_opensAt 46 = .ok (.aload_n 1, 1) := by decide +kernel
theorem dX9_opensAt_47 : decode cX9_opensAt 47 = .ok (.getfield 105, 3) := by decide +kernel
theorem dX9_opensAt_50 : decode cX9_opensAt 50 = .ok (.iload 4, 2) := by decide +kernel
theorem dX9_opensAt_52 : decode cX9_opensAt 52 = .ok (.iaload, 1) := by decide +kernel
theorem dX9_opensAt_53 : decode cX9_opensAt 53 = .ok (.aload_n 1, 1) := by decide +kernel
theorem dX9_opensAt_54 : decode cX9_opensAt 54 = .ok (.getfield 105, 3) := by decide +kernel
theorem dX9_opensAt_57 : decode cX9_opensAt 57 = .ok (.iload_n 2, 1) := by decide +kernel
theorem dX9_opensAt_58 : decode cX9_opensAt 58 = .ok (.iconst 1, 1) := by decide +kernel
theorem dX9_opensAt_59 : decode cX9_opensAt 59 = .ok (.iadd, 1) := by decide +kernel
theorem dX9_opensAt_60 : decode cX9_opensAt 60 = .ok (.iaload, 1) := by decide +kernel
theorem dX9_opensAt_61 : decode cX9_opensAt 61 = .ok (.if_icmp .ne 7, 3) := by decide +kernel
theorem dX9_opensAt_64 : decode cX9_opensAt 64 = .ok (.iconst 1, 1) := by decide +kernel
theorem dX9_opensAt_65 : decode cX9_opensAt 65 = .ok (.goto 4, 3) := by decide +kernel
theorem dX9_opensAt_68 : decode cX9_opensAt 68 = .ok (.iconst 0, 1) := by decide +kernel
theorem dX9_opensAt_69 : decode cX9_opensAt 69 = .ok (.istore 5, 2) := by decide +kernel
theorem dX9_opensAt_71 : decode cX9_opensAt 71 = .ok (.iload 5, 2) := by decide +kernel
theorem dX9_opensAt_73 : decode cX9_opensAt 73 = .ok (.ifCond .eq 30, 3) := by decide +kernel
theorem dX9_opensAt_76 : decode cX9_opensAt 76 = .ok (.iload 4, 2) := by decide +kernel
theorem dX9_opensAt_78 : decode cX9_opensAt 78 = .ok (.iload_n 2, 1) := by decide +kernel
theorem dX9_opensAt_79 : decode cX9_opensAt 79 = .ok (.if_icmp .eq 24, 3) := by decide +kernel
theorem dX9_opensAt_82 : decode cX9_opensAt 82 = .ok (.iload 4, 2) := by decide +kernel
theorem dX9_opensAt_84 : decode cX9_opensAt 84 = .ok (.iload_n 2, 1) := by decide +kernel
theorem dX9_opensAt_85 : decode cX9_opensAt 85 = .ok (.iconst 1, 1) := by decide +kernel
theorem dX9_opensAt_86 : decode cX9_opensAt 86 = .ok (.iadd, 1) := by decide +kernel
theorem dX9_opensAt_87 : decode cX9_opensAt 87 = .ok (.if_icmp .eq 16, 3) := by decide +kernel
theorem dX9_opensAt_90 : decode cX9_opensAt 90 = .ok (.aload_n 0, 1) := by decide +kernel
theorem dX9_opensAt_91 : decode cX9_opensAt 91 = .ok (.getfield 21, 3) := by decide +kernel
theorem dX9_opensAt_94 : decode cX9_opensAt 94 = .ok (.iload 4, 2) := by decide +kernel
theorem dX9_opensAt_96 : decode cX9_opensAt 96 = .ok (.iaload, 1) := by decide +kernel
theorem dX9_opensAt_97 : decode cX9_opensAt 97 = .ok (.iload_n 3, 1) := by decide +kernel
theorem dX9_opensAt_98 : decode cX9_opensAt 98 = .ok (.if_icmp .lt 5, 3) := by decide +kernel
theorem dX9_opensAt_101 : decode cX9_opensAt 101 = .ok (.iconst 0, 1) := by decide +kernel
theorem dX9_opensAt_102 : decode cX9_opensAt 102 = .ok (.ireturn, 1) := by decide +kernel
theorem dX9_opensAt_103 : decode cX9_opensAt 103 = .ok (.iinc 4 1, 3) := by decide +kernel
theorem dX9_opensAt_106 : decode cX9_opensAt 106 = .ok (.goto (-85), 3) := by decide +kernel
theorem dX9_opensAt_109 : decode cX9_opensAt 109 = .ok (.iconst 1, 1) := by decide +kernel
theorem dX9_opensAt_110 : decode cX9_opensAt 110 = .ok (.ireturn, 1) := by decide +kernel
theorem dX9_likeness_0 : decode cX9_likeness 0 = .ok (.iconst 0, 1) := by decide +kernel
theorem dX9_likeness_1 : decode cX9_likeness 1 = .ok (.istore_n 2, 1) := by decide +kernel
theorem dX9_likeness_2 : decode cX9_likeness 2 = .ok (.iconst 0, 1) := by decide +kernel
theorem dX9_likeness_3 : decode cX9_likeness 3 = .ok (.istore_n 3, 1) := by decide +kernel
theorem dX9_likeness_4 : decode cX9_likeness 4 = .ok (.iload_n 3, 1) := by decide +kernel
theorem dX9_likeness_5 : decode cX9_likeness 5 = .ok (.bipush 12, 2) := by decide +kernel
theorem dX9_likeness_7 : decode cX9_likeness 7 = .ok (.if_icmp .ge 82, 3) := by decide +kernel
theorem dX9_likeness_10 : decode cX9_likeness 10 = .ok (.iload_n 3, 1) := by decide +kernel
theorem dX9_likeness_11 : decode cX9_likeness 11 = .ok (.iconst 1, 1) := by decide +kernel
theorem dX9_likeness_12 : decode cX9_likeness 12 = .ok (.iadd, 1) := by decide +kernel
theorem dX9_likeness_13 : decode cX9_likeness 13 = .ok (.istore 4, 2) := by decide +kernel
theorem dX9_likeness_15 : decode cX9_likeness 15 = .ok (.iload 4, 2) := by decide +kernel
theorem dX9_likeness_17 : decode cX9_likeness 17 = .ok (.bipush 12, 2) := by decide +kernel
theorem dX9_likeness_19 : decode cX9_likeness 19 = .ok (.if_icmp .ge 64, 3) := by decide +kernel
theorem dX9_likeness_22 : decode cX9_likeness 22 = .ok (.aload_n 0, 1) := by decide +kernel
theorem dX9_likeness_23 : decode cX9_likeness 23 = .ok (.aload_n 1, 1) := by decide +kernel
theorem dX9_likeness_24 : decode cX9_likeness 24 = .ok (.iload_n 3, 1) := by decide +kernel
theorem dX9_likeness_25 : decode cX9_likeness 25 = .ok (.invokevirtual 123, 3) := by decide +kernel
theorem dX9_likeness_28 : decode cX9_likeness 28 = .ok (.ifCond .eq 49, 3) := by decide +kernel
theorem dX9_likeness_31 : decode cX9_likeness 31 = .ok (.aload_n 0, 1) := by decide +kernel
theorem dX9_likeness_32 : decode cX9_likeness 32 = .ok (.aload_n 1, 1) := by decide +kernel
theorem dX9_likeness_33 : decode cX9_likeness 33 = .ok (.iload 4, 2) := by decide +kernel
theorem dX9_likeness_35 : decode cX9_likeness 35 = .ok (.invokevirtual 123, 3) := by decide +kernel
theorem dX9_likeness_38 : decode cX9_likeness 38 = .ok (.ifCond .eq 39, 3) := by decide +kernel
theorem dX9_likeness_41 : decode cX9_likeness 41 = .ok (.iload_n 2, 1) := by decide +kernel
theorem dX9_likeness_42 : decode cX9_likeness 42 = .ok (.aload_n 0, 1) := by decide +kernel
theorem dX9_likeness_43 : decode cX9_likeness 43 = .ok (.getfield 27, 3) := by decide +kernel
theorem dX9_likeness_46 : decode cX9_likeness 46 = .ok (.iload_n 3, 1) := by decide +kernel
theorem dX9_likeness_47 : decode cX9_likeness 47 = .ok (.iaload, 1) := by decide +kernel
theorem dX9_likeness_48 : decode cX9_likeness 48 = .ok (.aload_n 0, 1) := by decide +kernel
theorem dX9_likeness_49 : decode cX9_likeness 49 = .ok (.getfield 27, 3) := by decide +kernel
theorem dX9_likeness_52 : decode cX9_likeness 52 = .ok (.iload 4, 2) := by decide +kernel
theorem dX9_likeness_54 : decode cX9_likeness 54 = .ok (.iaload, 1) := by decide +kernel
theorem dX9_likeness_55 : decode cX9_likeness 55 = .ok (.invokestatic 102, 3) := by decide +kernel
theorem dX9_likeness_58 : decode cX9_likeness 58 = .ok (.aload_n 1, 1) := by decide +kernel
theorem dX9_likeness_59 : decode cX9_likeness 59 = .ok (.getfield 27, 3) := by decide +kernel
theorem dX9_likeness_62 : decode cX9_likeness 62 = .ok (.iload_n 3, 1) := by decide +kernel
theorem dX9_likeness_63 : decode cX9_likeness 63 = .ok (.iaload, 1) := by decide +kernel
theorem dX9_likeness_64 : decode cX9_likeness 64 = .ok (.aload_n 1, 1) := by decide +kernel
theorem dX9_likeness_65 : decode cX9_likeness 65 = .ok (.getfield 27, 3) := by decide +kernel
theorem dX9_likeness_68 : decode cX9_likeness 68 = .ok (.iload 4, 2) := by decide +kernel
theorem dX9_likeness_70 : decode cX9_likeness 70 = .ok (.iaload, 1) := by decide +kernel
theorem dX9_likeness_71 : decode cX9_likeness 71 = .ok (.invokestatic 102, 3) := by decide +kernel
theorem dX9_likeness_74 : decode cX9_likeness 74 = .ok (.imul, 1) := by decide +kernel
theorem dX9_likeness_75 : decode cX9_likeness 75 = .ok (.iadd, 1) := by decide +kernel
theorem dX9_likeness_76 : decode cX9_likeness 76 = .ok (.istore_n 2, 1) := by decide +kernel
theorem dX9_likeness_77 : decode cX9_likeness 77 = .ok (.iinc 4 1, 3) := by decide +kernel
theorem dX9_likeness_80 : decode cX9_likeness 80 = .ok (.goto (-65), 3) := by decide +kernel
theorem dX9_likeness_83 : decode cX9_likeness 83 = .ok (.iinc 3 1, 3) := by decide +kernel
theorem dX9_likeness_86 : decode cX9_likeness 86 = .ok (.goto (-82), 3) := by decide +kernel
theorem dX9_likeness_89 : decode cX9_likeness 89 = .ok (.iload_n 2, 1) := by decide +kernel
theorem dX9_likeness_90 : decode cX9_likeness 90 = .ok (.ireturn, 1) := by decide +kernel
theorem dX9_bothHave_0 : decode cX9_bothHave 0 = .ok (.aload_n 0, 1) := by decide +kernel
theorem dX9_bothHave_1 : decode cX9_bothHave 1 = .ok (.getfield 30, 3) := by decide +kernel
theorem dX9_bothHave_4 : decode cX9_bothHave 4 = .ok (.iload_n 2, 1) := by decide +kernel
theorem dX9_bothHave_5 : decode cX9_bothHave 5 = .ok (.iaload, 1) := by decide +kernel
theorem dX9_bothHave_6 : decode cX9_bothHave 6 = .ok (.ifCond .le 16, 3) := by decide +kernel
theorem dX9_bothHave_9 : decode cX9_bothHave 9 = .ok (.aload_n 1, 1) := by decide +kernel
theorem dX9_bothHave_10 : decode cX9_bothHave 10 = .ok (.getfield 30, 3) := by decide +kernel
theorem dX9_bothHave_13 : decode cX9_bothHave 13 = .ok (.iload_n 2, 1) := by decide +kernel
theorem dX9_bothHave_14 : decode cX9_bothHave 14 = .ok (.iaload, 1) := by decide +kernel
theorem dX9_bothHave_15 : decode cX9_bothHave 15 = .ok (.ifCond .le 7, 3) := by decide +kernel
theorem dX9_bothHave_18 : decode cX9_bothHave 18 = .ok (.iconst 1, 1) := by decide +kernel
theorem dX9_bothHave_19 : decode cX9_bothHave 19 = .ok (.goto 4, 3) := by decide +kernel
theorem dX9_bothHave_22 : decode cX9_bothHave 22 = .ok (.iconst 0, 1) := by decide +kernel
theorem dX9_bothHave_23 : decode cX9_bothHave 23 = .ok (.ireturn, 1) := by decide +kernel
theorem dX9_surely_0 : decode cX9_surely 0 = .ok (.lconst 0, 1) := by decide +kernel
theorem dX9_surely_1 : decode cX9_surely 1 = .ok (.lstore 4, 2) := by decide +kernel
theorem dX9_surely_3 : decode cX9_surely 3 = .ok (.lconst 0, 1) := by decide +kernel
theorem dX9_surely_4 : decode cX9_surely 4 = .ok (.lstore 6, 2) := by decide +kernel
theorem dX9_surely_6 : decode cX9_surely 6 = .ok (.iconst 0, 1) := by decide +kernel
theorem dX9_surely_7 : decode cX9_surely 7 = .ok (.istore 8, 2) := by decide +kernel
theorem dX9_surely_9 : decode cX9_surely 9 = .ok (.iload 8, 2) := by decide +kernel
theorem dX9_surely_11 : decode cX9_surely 11 = .ok (.aload_n 1, 1) := by decide +kernel
theorem dX9_surely_12 : decode cX9_surely 12 = .ok (.getfield 36, 3) := by decide +kernel
theorem dX9_surely_15 : decode cX9_surely 15 = .ok (.if_icmp .ge 74, 3) := by decide +kernel
theorem dX9_surely_18 : decode cX9_surely 18 = .ok (.aload_n 0, 1) := by decide +kernel
theorem dX9_surely_19 : decode cX9_surely 19 = .ok (.iload 8, 2) := by decide +kernel
theorem dX9_surely_21 : decode cX9_surely 21 = .ok (.invokevirtual 88, 3) := by decide +kernel
theorem dX9_surely_24 : decode cX9_surely 24 = .ok (.ifCond .ne 59, 3) := by decide +kernel
theorem dX9_surely_27 : decode cX9_surely 27 = .ok (.lload 4, 2) := by decide +kernel
theorem dX9_surely_29 : decode cX9_surely 29 = .ok (.aload_n 1, 1) := by decide +kernel
theorem dX9_surely_30 : decode cX9_surely 30 = .ok (.getfield 97, 3) := by decide +kernel
theorem dX9_surely_33 : decode cX9_surely 33 = .ok (.iload 8, 2) := by decide +kernel
theorem dX9_surely_35 : decode cX9_surely 35 = .ok (.iaload, 1) := by decide +kernel
theorem dX9_surely_36 : decode cX9_surely 36 = .ok (.iload_n 2, 1) := by decide +kernel
theorem dX9_surely_37 : decode cX9_surely 37 = .ok (.if_icmp .ne 14, 3) := by decide +kernel
theorem dX9_surely_40 : decode cX9_surely 40 = .ok (.aload_n 0, 1) := by decide +kernel
theorem dX9_surely_41 : decode cX9_surely 41 = .ok (.getfield 18, 3) := by decide +kernel
theorem dX9_surely_44 : decode cX9_surely 44 = .ok (.iload 8, 2) := by decide +kernel
theorem dX9_surely_46 : decode cX9_surely 46 = .ok (.iaload, 1) := by decide +kernel
theorem dX9_surely_47 : decode cX9_surely 47 = .ok (.i2l, 1) := by decide +kernel
theorem dX9_surely_48 : decode cX9_surely 48 = .ok (.goto 4, 3) := by decide +kernel
theorem dX9_surely_51 : decode cX9_surely 51 = .ok (.lconst 0, 1) := by decide +kernel
theorem dX9_surely_52 : decode cX9_surely 52 = .ok (.ladd, 1) := by decide +kernel
theorem dX9_surely_53 : decode cX9_surely 53 = .ok (.lstore 4, 2) := by decide +kernel
theorem dX9_surely_55 : decode cX9_surely 55 = .ok (.lload 6, 2) := by decide +kernel
theorem dX9_surely_57 : decode cX9_surely 57 = .ok (.aload_n 1, 1) := by decide +kernel
theorem dX9_surely_58 : decode cX9_surely 58 = .ok (.getfield 97, 3) := by decide +kernel
theorem dX9_surely_61 : decode cX9_surely 61 = .ok (.iload 8, 2) := by decide +kernel
theorem dX9_surely_63 : decode cX9_surely 63 = .ok (.iaload, 1) := by decide +kernel
theorem dX9_surely_64 : decode cX9_surely 64 = .ok (.iload_n 3, 1) := by decide +kernel
theorem dX9_surely_65 : decode cX9_surely 65 = .ok (.if_icmp .ne 14, 3) := by decide +kernel
theorem dX9_surely_68 : decode cX9_surely 68 = .ok (.aload_n 0, 1) := by decide +kernel
theorem dX9_surely_69 : decode cX9_surely 69 = .ok (.getfield 21, 3) := by decide +kernel
theorem dX9_surely_72 : decode cX9_surely 72 = .ok (.iload 8, 2) := by decide +kernel
theorem dX9_surely_74 : decode cX9_surely 74 = .ok (.iaload, 1) := by decide +kernel
theorem dX9_surely_75 : decode cX9_surely 75 = .ok (.i2l, 1) := by decide +kernel
theorem dX9_surely_76 : decode cX9_surely 76 = .ok (.goto 4, 3) := by decide +kernel
theorem dX9_surely_79 : decode cX9_surely 79 = .ok (.lconst 0, 1) := by decide +kernel
theorem dX9_surely_80 : decode cX9_surely 80 = .ok (.ladd, 1) := by decide +kernel
theorem dX9_surely_81 : decode cX9_surely 81 = .ok (.lstore 6, 2) := by decide +kernel
theorem dX9_surely_83 : decode cX9_surely 83 = .ok (.iinc 8 1, 3) := by decide +kernel
theorem dX9_surely_86 : decode cX9_surely 86 = .ok (.goto (-77), 3) := by decide +kernel
theorem dX9_surely_89 : decode cX9_surely 89 = .ok (.lload 4, 2) := by decide +kernel
theorem dX9_surely_91 : decode cX9_surely 91 = .ok (.aload_n 0, 1) := by decide +kernel
theorem dX9_surely_92 : decode cX9_surely 92 = .ok (.getfield 30, 3) := by decide +kernel
theorem dX9_surely_95 : decode cX9_surely 95 = .ok (.iload_n 3, 1) := by decide +kernel
theorem dX9_surely_96 : decode cX9_surely 96 = .ok (.iaload, 1) := by decide +kernel
theorem dX9_surely_97 : decode cX9_surely 97 = .ok (.i2l, 1) := by decide +kernel
theorem dX9_surely_98 : decode cX9_surely 98 = .ok (.lmul, 1) := by decide +kernel
theorem dX9_surely_99 : decode cX9_surely 99 = .ok (.lload 6, 2) := by decide +kernel
theorem dX9_surely_101 : decode cX9_surely 101 = .ok (.aload_n 0, 1) := by decide +kernel
theorem dX9_surely_102 : decode cX9_surely 102 = .ok (.getfield 30, 3) := by decide +kernel
theorem dX9_surely_105 : decode cX9_surely 105 = .ok (.iload_n 2, 1) := by decide +kernel
theorem dX9_surely_106 : decode cX9_surely 106 = .ok (.iaload, 1) := by decide +kernel
theorem dX9_surely_107 : decode cX9_surely 107 = .ok (.i2l, 1) := by decide +kernel
theorem dX9_surely_108 : decode cX9_surely 108 = .ok (.lmul, 1) := by decide +kernel
theorem dX9_surely_109 : decode cX9_surely 109 = .ok (.lcmp, 1) := by decide +kernel
theorem dX9_surely_110 : decode cX9_surely 110 = .ok (.ifCond .le 7, 3) := by decide +kernel
theorem dX9_surely_113 : decode cX9_surely 113 = .ok (.iconst 1, 1) := by decide +kernel
theorem dX9_surely_114 : decode cX9_surely 114 = .ok (.goto 4, 3) := by decide +kernel
theorem dX9_surely_117 : decode cX9_surely 117 = .ok (.iconst 0, 1) := by decide +kernel
theorem dX9_surely_118 : decode cX9_surely 118 = .ok (.ireturn, 1) := by decide +kernel
theorem dX9_widest_0 : decode cX9_widest 0 = .ok (.iconst (-1), 1) := by decide +kernel
theorem dX9_widest_1 : decode cX9_widest 1 = .ok (.istore_n 2, 1) := by decide +kernel
theorem dX9_widest_2 : decode cX9_widest 2 = .ok (.iconst (-1), 1) := by decide +kernel
theorem dX9_widest_3 : decode cX9_widest 3 = .ok (.istore_n 3, 1) := by decide +kernel
theorem dX9_widest_4 : decode cX9_widest 4 = .ok (.iconst 0, 1) := by decide +kernel
theorem dX9_widest_5 : decode cX9_widest 5 = .ok (.istore 4, 2) := by decide +kernel
theorem dX9_widest_7 : decode cX9_widest 7 = .ok (.iload 4, 2) := by decide +kernel
theorem dX9_widest_9 : decode cX9_widest 9 = .ok (.aload_n 1, 1) := by decide +kernel
theorem dX9_widest_10 : decode cX9_widest 10 = .ok (.getfield 36, 3) := by decide +kernel
theorem dX9_widest_13 : decode cX9_widest 13 = .ok (.if_icmp .ge 59, 3) := by decide +kernel
theorem dX9_widest_16 : decode cX9_widest 16 = .ok (.aload_n 0, 1) := by decide +kernel
theorem dX9_widest_17 : decode cX9_widest 17 = .ok (.iload 4, 2) := by decide +kernel
theorem dX9_widest_19 : decode cX9_widest 19 = .ok (.invokevirtual 88, 3) := by decide +kernel
theorem dX9_widest_22 : decode cX9_widest 22 = .ok (.ifCond .eq 6, 3) := by decide +kernel
theorem dX9_widest_25 : decode cX9_widest 25 = .ok (.iload 4, 2) := by decide +kernel
theorem dX9_widest_27 : decode cX9_widest 27 = .ok (.ireturn, 1) := by decide +kernel
theorem dX9_widest_28 : decode cX9_widest 28 = .ok (.aload_n 0, 1) := by decide +kernel
theorem dX9_widest_29 : decode cX9_widest 29 = .ok (.getfield 21, 3) := by decide +kernel
theorem dX9_widest_32 : decode cX9_widest 32 = .ok (.iload 4, 2) := by decide +kernel
theorem dX9_widest_34 : decode cX9_widest 34 = .ok (.iaload, 1) := by decide +kernel
theorem dX9_widest_35 : decode cX9_widest 35 = .ok (.aload_n 0, 1) := by decide +kernel
theorem dX9_widest_36 : decode cX9_widest 36 = .ok (.getfield 18, 3) := by decide +kernel
theorem dX9_widest_39 : decode cX9_widest 39 = .ok (.iload 4, 2) := by decide +kernel
theorem dX9_widest_41 : decode cX9_widest 41 = .ok (.iaload, 1) := by decide +kernel
theorem dX9_widest_42 : decode cX9_widest 42 = .ok (.isub, 1) := by decide +kernel
theorem dX9_widest_43 : decode cX9_widest 43 = .ok (.iload_n 3, 1) := by decide +kernel
theorem dX9_widest_44 : decode cX9_widest 44 = .ok (.if_icmp .le 22, 3) := by decide +kernel
theorem dX9_widest_47 : decode cX9_widest 47 = .ok (.aload_n 0, 1) := by decide +kernel
theorem dX9_widest_48 : decode cX9_widest 48 = .ok (.getfield 21, 3) := by decide +kernel
theorem dX9_widest_51 : decode cX9_widest 51 = .ok (.iload 4, 2) := by decide +kernel
theorem dX9_widest_53 : decode cX9_widest 53 = .ok (.iaload, 1) := by decide +kernel
theorem dX9_widest_54 : decode cX9_widest 54 = .ok (.aload_n 0, 1) := by decide +kernel
theorem dX9_widest_55 : decode cX9_widest 55 = .ok (.getfield 18, 3) := by decide +kernel
theorem dX9_widest_58 : decode cX9_widest 58 = .ok (.iload 4, 2) := by decide +kernel
theorem dX9_widest_60 : decode cX9_widest 60 = .ok (.iaload, 1) := by decide +kernel
theorem dX9_widest_61 : decode cX9_widest 61 = .ok (.isub, 1) := by decide +kernel
theorem dX9_widest_62 : decode cX9_widest 62 = .ok (.istore_n 3, 1) := by decide +kernel
theorem dX9_widest_63 : decode cX9_widest 63 = .ok (.iload 4, 2) := by decide +kernel
theorem dX9_widest_65 : decode cX9_widest 65 = .ok (.istore_n 2, 1) := by decide +kernel
theorem dX9_widest_66 : decode cX9_widest 66 = .ok (.iinc 4 1, 3) := by decide +kernel
theorem dX9_widest_69 : decode cX9_widest 69 = .ok (.goto (-62), 3) := by decide +kernel
theorem dX9_widest_72 : decode cX9_widest 72 = .ok (.iload_n 2, 1) := by decide +kernel
theorem dX9_widest_73 : decode cX9_widest 73 = .ok (.ireturn, 1) := by decide +kernel
theorem dX10_init_0 : decode cX10_init 0 = .ok (.aload_n 0, 1) := by decide +kernel
theorem dX10_init_1 : decode cX10_init 1 = .ok (.invokespecial 3, 3) := by decide +kernel
theorem dX10_init_4 : decode cX10_init 4 = .ok (.aload_n 0, 1) := by decide +kernel
theorem dX10_init_5 : decode cX10_init 5 = .ok (.bipush 12, 2) := by decide +kernel
theorem dX10_init_7 : decode cX10_init 7 = .ok (.newarray .int, 2) := by decide +kernel
theorem dX10_init_9 : decode cX10_init 9 = .ok (.putfield 9, 3) := by decide +kernel
theorem dX10_init_12 : decode cX10_init 12 = .ok (.aload_n 0, 1) := by decide +kernel
theorem dX10_init_13 : decode cX10_init 13 = .ok (.bipush 12, 2) := by decide +kernel
theorem dX10_init_15 : decode cX10_init 15 = .ok (.newarray .int, 2) := by decide +kernel
theorem dX10_init_17 : decode cX10_init 17 = .ok (.putfield 15, 3) := by decide +kernel
theorem dX10_init_20 : decode cX10_init 20 = .ok (.return_, 1) := by decide +kernel
theorem dX10_write_0 : decode cX10_write 0 = .ok (.aload_n 0, 1) := by decide +kernel
theorem dX10_write_1 : decode cX10_write 1 = .ok (.getfield 9, 3) := by decide +kernel
theorem dX10_write_4 : decode cX10_write 4 = .ok (.iconst 0, 1) := by decide +kernel
theorem dX10_write_5 : decode cX10_write 5 = .ok (.invokestatic 18, 3) := by decide +kernel
theorem dX10_write_8 : decode cX10_write 8 = .ok (.aload_n 0, 1) := by decide +kernel
theorem dX10_write_9 : decode cX10_write 9 = .ok (.getfield 15, 3) := by decide +kernel
theorem dX10_write_12 : decode cX10_write 12 = .ok (.iconst 0, 1) := by decide +kernel
theorem dX10_write_13 : decode cX10_write 13 = .ok (.invokestatic 18, 3) := by decide +kernel
theorem dX10_write_16 : decode cX10_write 16 = .ok (.iconst 0, 1) := by decide +kernel
theorem dX10_write_17 : decode cX10_write 17 = .ok (.istore_n 2, 1) := by decide +kernel
theorem dX10_write_18 : decode cX10_write 18 = .ok (.iload_n 2, 1) := by decide +kernel
theorem dX10_write_19 : decode cX10_write 19 = .ok (.sipush 500, 3) := by decide +kernel
theorem dX10_write_22 : decode cX10_write 22 = .ok (.if_icmp .ge 25, 3) := by decide +kernel
theorem dX10_write_25 : decode cX10_write 25 = .ok (.aload_n 1, 1) := by decide +kernel
theorem dX10_write_26 : decode cX10_write 26 = .ok (.invokevirtual 24, 3) := by decide +kernel
theorem dX10_write_29 : decode cX10_write 29 = .ok (.ifCond .eq 18, 3) := by decide +kernel
theorem dX10_write_32 : decode cX10_write 32 = .ok (.aload_n 0, 1) := by decide +kernel
theorem dX10_write_33 : decode cX10_write 33 = .ok (.aload_n 1, 1) := by decide +kernel
theorem dX10_write_34 : decode cX10_write 34 = .ok (.invokevirtual 30, 3) := by decide +kernel
theorem dX10_write_37 : decode cX10_write 37 = .ok (.aload_n 1, 1) := by decide +kernel
theorem dX10_write_38 : decode cX10_write 38 = .ok (.invokevirtual 34, 3) := by decide +kernel
theorem dX10_write_41 : decode cX10_write 41 = .ok (.iinc 2 1, 3) := by decide +kernel
theorem dX10_write_44 : decode cX10_write 44 = .ok (.goto (-26), 3) := by decide +kernel
theorem dX10_write_47 : decode cX10_write 47 = .ok (.return_, 1) := by decide +kernel
theorem dX10_writeLine_0 : decode cX10_writeLine 0 = .ok (.aload_n 1, 1) := by decide +kernel
theorem dX10_writeLine_1 : decode cX10_writeLine 1 = .ok (.ldc 37, 2) := by decide +kernel
theorem dX10_writeLine_3 : decode cX10_writeLine 3 = .ok (.invokevirtual 39, 3) := by decide +kernel
theorem dX10_writeLine_6 : decode cX10_writeLine 6 = .ok (.ifCond .ne 13, 3) := by decide +kernel
theorem dX10_writeLine_9 : decode cX10_writeLine 9 = .ok (.aload_n 1, 1) := by decide +kernel
theorem dX10_writeLine_10 : decode cX10_writeLine 10 = .ok (.iconst 1, 1) := by decide +kernel
theorem dX10_writeLine_11 : decode cX10_writeLine 11 = .ok (.aload_n 1, 1) := by decide +kernel
theorem dX10_writeLine_12 : decode cX10_writeLine 12 = .ok (.getfield 43, 3) := by decide +kernel
theorem dX10_writeLine_15 : decode cX10_writeLine 15 = .ok (.invokevirtual 47, 3) := by decide +kernel
theorem dX10_writeLine_18 : decode cX10_writeLine 18 = .ok (.return_, 1) := by decide +kernel
theorem dX10_writeLine_19 : decode cX10_writeLine 19 = .ok (.aload_n 1, 1) := by decide +kernel
theorem dX10_writeLine_20 : decode cX10_writeLine 20 = .ok (.iconst 0, 1) := by decide +kernel
theorem dX10_writeLine_21 : decode cX10_writeLine 21 = .ok (.bipush 11, 2) := by decide +kernel
theorem dX10_writeLine_23 : decode cX10_writeLine 23 = .ok (.invokevirtual 51, 3) := by decide +kernel
theorem dX10_writeLine_26 : decode cX10_writeLine 26 = .ok (.istore_n 2, 1) := by decide +kernel
theorem dX10_writeLine_27 : decode cX10_writeLine 27 = .ok (.aload_n 0, 1) := by decide +kernel
theorem dX10_writeLine_28 : decode cX10_writeLine 28 = .ok (.getfield 9, 3) := by decide +kernel
theorem dX10_writeLine_31 : decode cX10_writeLine 31 = .ok (.iload_n 2, 1) := by decide +kernel
theorem dX10_writeLine_32 : decode cX10_writeLine 32 = .ok (.iaload, 1) := by decide +kernel
theorem dX10_writeLine_33 : decode cX10_writeLine 33 = .ok (.ifCond .le 12, 3) := by decide +kernel
theorem dX10_writeLine_36 : decode cX10_writeLine 36 = .ok (.aload_n 1, 1) := by decide +kernel
theorem dX10_writeLine_37 : decode cX10_writeLine 37 = .ok (.iconst 5, 1) := by decide +kernel
theorem dX10_writeLine_38 : decode cX10_writeLine 38 = .ok (.aload_n 1, 1) := by decide +kernel
theorem dX10_writeLine_39 : decode cX10_writeLine 39 = .ok (.getfield 55, 3) := by decide +kernel
theorem dX10_writeLine_42 : decode cX10_writeLine 42 = .ok (.invokevirtual 47, 3) := by decide +kernel
theorem dX10_writeLine_45 : decode cX10_writeLine 45 = .ok (.aload_n 1, 1) := by decide +kernel
theorem dX10_writeLine_46 : decode cX10_writeLine 46 = .ok (.iconst 1, 1) := by decide +kernel
theorem dX10_writeLine_47 : decode cX10_writeLine 47 = .ok (.bipush 99, 2) := by decide +kernel
theorem dX10_writeLine_49 : decode cX10_writeLine 49 = .ok (.invokevirtual 51, 3) := by decide +kernel
theorem dX10_writeLine_52 : decode cX10_writeLine 52 = .ok (.istore_n 3, 1) := by decide +kernel
theorem dX10_writeLine_53 : decode cX10_writeLine 53 = .ok (.aload_n 1, 1) := by decide +kernel
theorem dX10_writeLine_54 : decode cX10_writeLine 54 = .ok (.ldc 58, 2) := by decide +kernel
theorem dX10_writeLine_56 : decode cX10_writeLine 56 = .ok (.invokevirtual 39, 3) := by decide +kernel
theorem dX10_writeLine_59 : decode cX10_writeLine 59 = .ok (.ifCond .eq 13, 3) := by decide +kernel
theorem dX10_writeLine_62 : decode cX10_writeLine 62 = .ok (.aload_n 1, 1) := by decide +kernel
theorem dX10_writeLine_63 : decode cX10_writeLine 63 = .ok (.iconst 0, 1) := by decide +kernel
theorem dX10_writeLine_64 : decode cX10_writeLine 64 = .ok (.bipush 50, 2) := by decide +kernel
theorem dX10_writeLine_66 : decode cX10_writeLine 66 = .ok (.invokevirtual 51, 3) := by decide +kernel
theorem dX10_writeLine_69 : decode cX10_writeLine 69 = .ok (.goto 4, 3) := by decide +kernel
theorem dX10_writeLine_72 : decode cX10_writeLine 72 = .ok (.iconst 0, 1) := by decide +kernel
theorem dX10_writeLine_73 : decode cX10_writeLine 73 = .ok (.istore 4, 2) := by decide +kernel
theorem dX10_writeLine_75 : decode cX10_writeLine 75 = .ok (.aload_n 1, 1) := by decide +kernel
theorem dX10_writeLine_76 : decode cX10_writeLine 76 = .ok (.getfield 60, 3) := by decide +kernel
theorem dX10_writeLine_79 : decode cX10_writeLine 79 = .ok (.ifCond .ne 18, 3) := by decide +kernel
theorem dX10_writeLine_82 : decode cX10_writeLine 82 = .ok (.aload_n 0, 1) := by decide +kernel
theorem dX10_writeLine_83 : decode cX10_writeLine 83 = .ok (.getfield 9, 3) := by decide +kernel
theorem dX10_writeLine_86 : decode cX10_writeLine 86 = .ok (.iload_n 2, 1) := by decide +kernel
theorem dX10_writeLine_87 : decode cX10_writeLine 87 = .ok (.iload_n 3, 1) := by decide +kernel
theorem dX10_writeLine_88 : decode cX10_writeLine 88 = .ok (.iastore, 1) := by decide +kernel
theorem dX10_writeLine_89 : decode cX10_writeLine 89 = .ok (.aload_n 0, 1) := by decide +kernel
theorem dX10_writeLine_90 : decode cX10_writeLine 90 = .ok (.getfield 15, 3) := by decide +kernel
theorem dX10_writeLine_93 : decode cX10_writeLine 93 = .ok (.iload_n 2, 1) := by decide +kernel
theorem dX10_writeLine_94 : decode cX10_writeLine 94 = .ok (.iload 4, 2) := by decide +kernel
theorem dX10_writeLine_96 : decode cX10_writeLine 96 = .ok (.iastore, 1) := by decide +kernel
theorem dX10_writeLine_97 : decode cX10_writeLine 97 = .ok (.return_, 1) := by decide +kernel
theorem dX10_tellsSome_0 : decode cX10_tellsSome 0 = .ok (.iconst 0, 1) := by decide +kernel
theorem dX10_tellsSome_1 : decode cX10_tellsSome 1 = .ok (.istore_n 1, 1) := by decide +kernel
theorem dX10_tellsSome_2 : decode cX10_tellsSome 2 = .ok (.iload_n 1, 1) := by decide +kernel
theorem dX10_tellsSome_3 : decode cX10_tellsSome 3 = .ok (.bipush 12, 2) := by decide +kernel
theorem dX10_tellsSome_5 : decode cX10_tellsSome 5 = .ok (.if_icmp .ge 20, 3) := by decide +kernel
theorem dX10_tellsSome_8 : decode cX10_tellsSome 8 = .ok (.aload_n 0, 1) := by decide +kernel
theorem dX10_tellsSome_9 : decode cX10_tellsSome 9 = .ok (.getfield 9, 3) := by decide +kernel
theorem dX10_tellsSome_12 : decode cX10_tellsSome 12 = .ok (.iload_n 1, 1) := by decide +kernel
theorem dX10_tellsSome_13 : decode cX10_tellsSome 13 = .ok (.iaload, 1) := by decide +kernel
theorem dX10_tellsSome_14 : decode cX10_tellsSome 14 = .ok (.ifCond .le 5, 3) := by decide +kernel
theorem dX10_tellsSome_17 : decode cX10_tellsSome 17 = .ok (.iconst 1, 1) := by decide +kernel
theorem dX10_tellsSome_18 : decode cX10_tellsSome 18 = .ok (.ireturn, 1) := by decide +kernel
theorem dX10_tellsSome_19 : decode cX10_tellsSome 19 = .ok (.iinc 1 1, 3) := by decide +kernel
theorem dX10_tellsSome_22 : decode cX10_tellsSome 22 = .ok (.goto (-20), 3) := by decide +kernel
theorem dX10_tellsSome_25 : decode cX10_tellsSome 25 = .ok (.iconst 0, 1) := by decide +kernel
theorem dX10_tellsSome_26 : decode cX10_tellsSome 26 = .ok (.ireturn, 1) := by decide +kernel
theorem dX10_yearly_0 : decode cX10_yearly 0 = .ok (.bipush 100, 2) := by decide +kernel
theorem dX10_yearly_2 : decode cX10_yearly 2 = .ok (.aload_n 0, 1) := by decide +kernel
theorem dX10_yearly_3 : decode cX10_yearly 3 = .ok (.getfield 15, 3) := by decide +kernel
theorem dX10_yearly_6 : decode cX10_yearly 6 = .ok (.iload_n 1, 1) := by decide +kernel
theorem dX10_yearly_7 : decode cX10_yearly 7 = .ok (.iaload, 1) := by decide +kernel
theorem dX10_yearly_8 : decode cX10_yearly 8 = .ok (.iload_n 2, 1) := by decide +kernel
theorem dX10_yearly_9 : decode cX10_yearly 9 = .ok (.imul, 1) := by decide +kernel
theorem dX10_yearly_10 : decode cX10_yearly 10 = .ok (.isub, 1) := by decide +kernel
theorem dX10_yearly_11 : decode cX10_yearly 11 = .ok (.istore_n 3, 1) := by decide +kernel
theorem dX10_yearly_12 : decode cX10_yearly 12 = .ok (.iload_n 3, 1) := by decide +kernel
theorem dX10_yearly_13 : decode cX10_yearly 13 = .ok (.ifCond .ge 7, 3) := by decide +kernel
theorem dX10_yearly_16 : decode cX10_yearly 16 = .ok (.iconst 0, 1) := by decide +kernel
theorem dX10_yearly_17 : decode cX10_yearly 17 = .ok (.goto 14, 3) := by decide +kernel
theorem dX10_yearly_20 : decode cX10_yearly 20 = .ok (.aload_n 0, 1) := by decide +kernel
theorem dX10_yearly_21 : decode cX10_yearly 21 = .ok (.getfield 9, 3) := by decide +kernel
theorem dX10_yearly_24 : decode cX10_yearly 24 = .ok (.iload_n 1, 1) := by decide +kernel
theorem dX10_yearly_25 : decode cX10_yearly 25 = .ok (.iaload, 1) := by decide +kernel
theorem dX10_yearly_26 : decode cX10_yearly 26 = .ok (.iload_n 3, 1) := by decide +kernel
theorem dX10_yearly_27 : decode cX10_yearly 27 = .ok (.imul, 1) := by decide +kernel
theorem dX10_yearly_28 : decode cX10_yearly 28 = .ok (.bipush 100, 2) := by decide +kernel
theorem dX10_yearly_30 : decode cX10_yearly 30 = .ok (.idiv, 1) := by decide +kernel
theorem dX10_yearly_31 : decode cX10_yearly 31 = .ok (.ireturn, 1) := by decide +kernel
theorem dX11_init_0 : decode cX11_init 0 = .ok (.aload_n 0, 1) := by decide +kernel
theorem dX11_init_1 : decode cX11_init 1 = .ok (.invokespecial 1, 3) := by decide +kernel
theorem dX11_init_4 : decode cX11_init 4 = .ok (.aload_n 0, 1) := by decide +kernel
theorem dX11_init_5 : decode cX11_init 5 = .ok (.new 7, 3) := by decide +kernel
theorem dX11_init_8 : decode cX11_init 8 = .ok (.dup, 1) := by decide +kernel
theorem dX11_init_9 : decode cX11_init 9 = .ok (.invokespecial 9, 3) := by decide +kernel
theorem dX11_init_12 : decode cX11_init 12 = .ok (.putfield 10, 3) := by decide +kernel
theorem dX11_init_15 : decode cX11_init 15 = .ok (.aload_n 0, 1) := by decide +kernel
theorem dX11_init_16 : decode cX11_init 16 = .ok (.bipush 6, 2) := by decide +kernel
theorem dX11_init_18 : decode cX11_init 18 = .ok (.anewarray 16, 3) := by decide +kernel
theorem dX11_init_21 : decode cX11_init 21 = .ok (.putfield 18, 3) := by decide +kernel
theorem dX11_init_24 : decode cX11_init 24 = .ok (.aload_n 0, 1) := by decide +kernel
theorem dX11_init_25 : decode cX11_init 25 = .ok (.bipush 6, 2) := by decide +kernel
theorem dX11_init_27 : decode cX11_init 27 = .ok (.anewarray 22, 3) := by decide +kernel
theorem dX11_init_30 : decode cX11_init 30 = .ok (.putfield 24, 3) := by decide +kernel
theorem dX11_init_33 : decode cX11_init 33 = .ok (.aload_n 0, 1) := by decide +kernel
theorem dX11_init_34 : decode cX11_init 34 = .ok (.new 28, 3) := by decide +kernel
theorem dX11_init_37 : decode cX11_init 37 = .ok (.dup, 1) := by decide +kernel
theorem dX11_init_38 : decode cX11_init 38 = .ok (.invokespecial 30, 3) := by decide +kernel
theorem dX11_init_41 : decode cX11_init 41 = .ok (.putfield 31, 3) := by decide +kernel
theorem dX11_init_44 : decode cX11_init 44 = .ok (.aload_n 0, 1) := by decide +kernel
theorem dX11_init_45 : decode cX11_init 45 = .ok (.new 16, 3) := by decide +kernel
theorem dX11_init_48 : decode cX11_init 48 = .ok (.dup, 1) := by decide +kernel
theorem dX11_init_49 : decode cX11_init 49 = .ok (.invokespecial 35, 3) := by decide +kernel
theorem dX11_init_52 : decode cX11_init 52 = .ok (.putfield 36, 3) := by decide +kernel
theorem dX11_init_55 : decode cX11_init 55 = .ok (.aload_n 0, 1) := by decide +kernel
theorem dX11_init_56 : decode cX11_init 56 = .ok (.new 22, 3) := by decide +kernel
theorem dX11_init_59 : decode cX11_init 59 = .ok (.dup, 1) := by decide +kernel
theorem dX11_init_60 : decode cX11_init 60 = .ok (.invokespecial 40, 3) := by decide +kernel
theorem dX11_init_63 : decode cX11_init 63 = .ok (.putfield 41, 3) := by decide +kernel
theorem dX11_init_66 : decode cX11_init 66 = .ok (.aload_n 0, 1) := by decide +kernel
theorem dX11_init_67 : decode cX11_init 67 = .ok (.new 28, 3) := by decide +kernel
theorem dX11_init_70 : decode cX11_init 70 = .ok (.dup, 1) := by decide +kernel
theorem dX11_init_71 : decode cX11_init 71 = .ok (.invokespecial 30, 3) := by decide +kernel
theorem dX11_init_74 : decode cX11_init 74 = .ok (.putfield 45, 3) := by decide +kernel
theorem dX11_init_77 : decode cX11_init 77 = .ok (.aload_n 0, 1) := by decide +kernel
theorem dX11_init_78 : decode cX11_init 78 = .ok (.new 48, 3) := by decide +kernel
theorem dX11_init_81 : decode cX11_init 81 = .ok (.dup, 1) := by decide +kernel
theorem dX11_init_82 : decode cX11_init 82 = .ok (.invokespecial 50, 3) := by decide +kernel
theorem dX11_init_85 : decode cX11_init 85 = .ok (.putfield 51, 3) := by decide +kernel
theorem dX11_init_88 : decode cX11_init 88 = .ok (.aload_n 0, 1) := by decide +kernel
theorem dX11_init_89 : decode cX11_init 89 = .ok (.iconst 4, 1) := by decide +kernel
theorem dX11_init_90 : decode cX11_init 90 = .ok (.newarray .int, 2) := by decide +kernel
theorem dX11_init_92 : decode cX11_init 92 = .ok (.putfield 55, 3) := by decide +kernel
theorem dX11_init_95 : decode cX11_init 95 = .ok (.aload_n 0, 1) := by decide +kernel
theorem dX11_init_96 : decode cX11_init 96 = .ok (.iconst 4, 1) := by decide +kernel
theorem dX11_init_97 : decode cX11_init 97 = .ok (.newarray .int, 2) := by decide +kernel
theorem dX11_init_99 : decode cX11_init 99 = .ok (.putfield 59, 3) := by decide +kernel
theorem dX11_init_102 : decode cX11_init 102 = .ok (.aload_n 0, 1) := by decide +kernel
theorem dX11_init_103 : decode cX11_init 103 = .ok (.new 62, 3) := by decide +kernel
theorem dX11_init_106 : decode cX11_init 106 = .ok (.dup, 1) := by decide +kernel
theorem dX11_init_107 : decode cX11_init 107 = .ok (.invokespecial 64, 3) := by decide +kernel
theorem dX11_init_110 : decode cX11_init 110 = .ok (.putfield 65, 3) := by decide +kernel
theorem dX11_init_113 : decode cX11_init 113 = .ok (.aload_n 0, 1) := by decide +kernel
theorem dX11_init_114 : decode cX11_init 114 = .ok (.new 62, 3) := by decide +kernel
theorem dX11_init_117 : decode cX11_init 117 = .ok (.dup, 1) := by decide +kernel
theorem dX11_init_118 : decode cX11_init 118 = .ok (.invokespecial 64, 3) := by decide +kernel
theorem dX11_init_121 : decode cX11_init 121 = .ok (.putfield 69, 3) := by decide +kernel
theorem dX11_init_124 : decode cX11_init 124 = .ok (.aload_n 0, 1) := by decide +kernel
theorem dX11_init_125 : decode cX11_init 125 = .ok (.new 72, 3) := by decide +kernel
theorem dX11_init_128 : decode cX11_init 128 = .ok (.dup, 1) := by decide +kernel
theorem dX11_init_129 : decode cX11_init 129 = .ok (.invokespecial 74, 3) := by decide +kernel
theorem dX11_init_132 : decode cX11_init 132 = .ok (.putfield 75, 3) := by decide +kernel
theorem dX11_init_135 : decode cX11_init 135 = .ok (.aload_n 0, 1) := by decide +kernel
theorem dX11_init_136 : decode cX11_init 136 = .ok (.new 79, 3) := by decide +kernel
theorem dX11_init_139 : decode cX11_init 139 = .ok (.dup, 1) := by decide +kernel
theorem dX11_init_140 : decode cX11_init 140 = .ok (.invokespecial 81, 3) := by decide +kernel
theorem dX11_init_143 : decode cX11_init 143 = .ok (.putfield 82, 3) := by decide +kernel
theorem dX11_init_146 : decode cX11_init 146 = .ok (.aload_n 0, 1) := by decide +kernel
theorem dX11_init_147 : decode cX11_init 147 = .ok (.new 86, 3) := by decide +kernel
theorem dX11_init_150 : decode cX11_init 150 = .ok (.dup, 1) := by decide +kernel
theorem dX11_init_151 : decode cX11_init 151 = .ok (.invokespecial 88, 3) := by decide +kernel
theorem dX11_init_154 : decode cX11_init 154 = .ok (.putfield 89, 3) := by decide +kernel
theorem dX11_init_157 : decode cX11_init 157 = .ok (.aload_n 0, 1) := by decide +kernel
theorem dX11_init_158 : decode cX11_init 158 = .ok (.new 93, 3) := by decide +kernel
theorem dX11_init_161 : decode cX11_init 161 = .ok (.dup, 1) := by decide +kernel
theorem dX11_init_162 : decode cX11_init 162 = .ok (.invokespecial 95, 3) := by decide +kernel
theorem dX11_init_165 : decode cX11_init 165 = .ok (.putfield 96, 3) := by decide +kernel
theorem dX11_init_168 : decode cX11_init 168 = .ok (.aload_n 0, 1) := by decide +kernel
theorem dX11_init_169 : decode cX11_init 169 = .ok (.new 100, 3) := by decide +kernel
theorem dX11_init_172 : decode cX11_init 172 = .ok (.dup, 1) := by decide +kernel
theorem dX11_init_173 : decode cX11_init 173 = .ok (.invokespecial 102, 3) := by decide +kernel
theorem dX11_init_176 : decode cX11_init 176 = .ok (.putfield 103, 3) := by decide +kernel
theorem dX11_init_179 : decode cX11_init 179 = .ok (.aload_n 0, 1) := by decide +kernel
theorem dX11_init_180 : decode cX11_init 180 = .ok (.bipush 40, 2) := by decide +kernel
theorem dX11_init_182 : decode cX11_init 182 = .ok (.newarray .int, 2) := by decide +kernel
theorem dX11_init_184 : decode cX11_init 184 = .ok (.putfield 107, 3) := by decide +kernel
theorem dX11_init_187 : decode cX11_init 187 = .ok (.iconst 0, 1) := by decide +kernel
theorem dX11_init_188 : decode cX11_init 188 = .ok (.istore_n 1, 1) := by decide +kernel
theorem dX11_init_189 : decode cX11_init 189 = .ok (.iload_n 1, 1) := by decide +kernel
theorem dX11_init_190 : decode cX11_init 190 = .ok (.bipush 6, 2) := by decide +kernel
theorem dX11_init_192 : decode cX11_init 192 = .ok (.if_icmp .ge 22, 3) := by decide +kernel
theorem dX11_init_195 : decode cX11_init 195 = .ok (.aload_n 0, 1) := by decide +kernel
theorem dX11_init_196 : decode cX11_init 196 = .ok (.getfield 18, 3) := by decide +kernel
theorem dX11_init_199 : decode cX11_init 199 = .ok (.iload_n 1, 1) := by decide +kernel
theorem dX11_init_200 : decode cX11_init 200 = .ok (.new 16, 3) := by decide +kernel
theorem dX11_init_203 : decode cX11_init 203 = .ok (.dup, 1) := by decide +kernel
theorem dX11_init_204 : decode cX11_init 204 = .ok (.invokespecial 35, 3) := by decide +kernel
theorem dX11_init_207 : decode cX11_init 207 = .ok (.aastore, 1) := by decide +kernel
theorem dX11_init_208 : decode cX11_init 208 = .ok (.iinc 1 1, 3) := by decide +kernel
theorem dX11_init_211 : decode cX11_init 211 = .ok (.goto (-22), 3) := by decide +kernel
theorem dX11_init_214 : decode cX11_init 214 = .ok (.iconst 0, 1) := by decide +kernel
theorem dX11_init_215 : decode cX11_init 215 = .ok (.istore_n 1, 1) := by decide +kernel
theorem dX11_init_216 : decode cX11_init 216 = .ok (.iload_n 1, 1) := by decide +kernel
theorem dX11_init_217 : decode cX11_init 217 = .ok (.bipush 6, 2) := by decide +kernel
theorem dX11_init_219 : decode cX11_init 219 = .ok (.if_icmp .ge 22, 3) := by decide +kernel
theorem dX11_init_222 : decode cX11_init 222 = .ok (.aload_n 0, 1) := by decide +kernel
theorem dX11_init_223 : decode cX11_init 223 = .ok (.getfield 24, 3) := by decide +kernel
theorem dX11_init_226 : decode cX11_init 226 = .ok (.iload_n 1, 1) := by decide +kernel
theorem dX11_init_227 : decode cX11_init 227 = .ok (.new 22, 3) := by decide +kernel
theorem dX11_init_230 : decode cX11_init 230 = .ok (.dup, 1) := by decide +kernel
theorem dX11_init_231 : decode cX11_init 231 = .ok (.invokespecial 40, 3) := by decide +kernel
theorem dX11_init_234 : decode cX11_init 234 = .ok (.aastore, 1) := by decide +kernel
theorem dX11_init_235 : decode cX11_init 235 = .ok (.iinc 1 1, 3) := by decide +kernel
theorem dX11_init_238 : decode cX11_init 238 = .ok (.goto (-22), 3) := by decide +kernel
theorem dX11_init_241 : decode cX11_init 241 = .ok (.return_, 1) := by decide +kernel
theorem dX11_feed_0 : decode cX11_feed 0 = .ok (.aload_n 0, 1) := by decide +kernel
theorem dX11_feed_1 : decode cX11_feed 1 = .ok (.getfield 10, 3) := by decide +kernel
theorem dX11_feed_4 : decode cX11_feed 4 = .ok (.getfield 110, 3) := by decide +kernel
theorem dX11_feed_7 : decode cX11_feed 7 = .ok (.bipush 20, 2) := by decide +kernel
theorem dX11_feed_9 : decode cX11_feed 9 = .ok (.iadd, 1) := by decide +kernel
theorem dX11_feed_10 : decode cX11_feed 10 = .ok (.sipush 500, 3) := by decide +kernel
theorem dX11_feed_13 : decode cX11_feed 13 = .ok (.if_icmp .le 5, 3) := by decide +kernel
theorem dX11_feed_16 : decode cX11_feed 16 = .ok (.iconst (-1), 1) := by decide +kernel
theorem dX11_feed_17 : decode cX11_feed 17 = .ok (.ireturn, 1) := by decide +kernel
theorem dX11_feed_18 : decode cX11_feed 18 = .ok (.aload_n 0, 1) := by decide +kernel
theorem dX11_feed_19 : decode cX11_feed 19 = .ok (.getfield 10, 3) := by decide +kernel
theorem dX11_feed_22 : decode cX11_feed 22 = .ok (.iload_n 1, 1) := by decide +kernel
theorem dX11_feed_23 : decode cX11_feed 23 = .ok (.invokevirtual 114, 3) := by decide +kernel
theorem dX11_feed_26 : decode cX11_feed 26 = .ok (.aload_n 0, 1) := by decide +kernel
theorem dX11_feed_27 : decode cX11_feed 27 = .ok (.getfield 10, 3) := by decide +kernel
theorem dX11_feed_30 : decode cX11_feed 30 = .ok (.iload_n 2, 1) := by decide +kernel
theorem dX11_feed_31 : decode cX11_feed 31 = .ok (.invokevirtual 114, 3) := by decide +kernel
theorem dX11_feed_34 : decode cX11_feed 34 = .ok (.aload_n 0, 1) := by decide +kernel
theorem dX11_feed_35 : decode cX11_feed 35 = .ok (.getfield 10, 3) := by decide +kernel
theorem dX11_feed_38 : decode cX11_feed 38 = .ok (.iload_n 3, 1) := by decide +kernel
theorem dX11_feed_39 : decode cX11_feed 39 = .ok (.invokevirtual 114, 3) := by decide +kernel
theorem dX11_feed_42 : decode cX11_feed 42 = .ok (.aload_n 0, 1) := by decide +kernel
theorem dX11_feed_43 : decode cX11_feed 43 = .ok (.getfield 10, 3) := by decide +kernel
theorem dX11_feed_46 : decode cX11_feed 46 = .ok (.iload 4, 2) := by decide +kernel
theorem dX11_feed_48 : decode cX11_feed 48 = .ok (.invokevirtual 114, 3) := by decide +kernel
theorem dX11_feed_51 : decode cX11_feed 51 = .ok (.aload_n 0, 1) := by decide +kernel
theorem dX11_feed_52 : decode cX11_feed 52 = .ok (.getfield 10, 3) := by decide +kernel
theorem dX11_feed_55 : decode cX11_feed 55 = .ok (.iload 5, 2) := by decide +kernel
theorem dX11_feed_57 : decode cX11_feed 57 = .ok (.invokevirtual 114, 3) := by decide +kernel
theorem dX11_feed_60 : decode cX11_feed 60 = .ok (.aload_n 0, 1) := by decide +kernel
theorem dX11_feed_61 : decode cX11_feed 61 = .ok (.getfield 10, 3) := by decide +kernel
theorem dX11_feed_64 : decode cX11_feed 64 = .ok (.getfield 110, 3) := by decide +kernel
theorem dX11_feed_67 : decode cX11_feed 67 = .ok (.ireturn, 1) := by decide +kernel
theorem dX11_book_0 : decode cX11_book 0 = .ok (.aload_n 0, 1) := by decide +kernel
theorem dX11_book_1 : decode cX11_book 1 = .ok (.iload_n 1, 1) := by decide +kernel
theorem dX11_book_2 : decode cX11_book 2 = .ok (.invokevirtual 118, 3) := by decide +kernel
theorem dX11_book_5 : decode cX11_book 5 = .ok (.astore_n 3, 1) := by decide +kernel
theorem dX11_book_6 : decode cX11_book 6 = .ok (.aload_n 0, 1) := by decide +kernel
theorem dX11_book_7 : decode cX11_book 7 = .ok (.iload_n 2, 1) := by decide +kernel
theorem dX11_book_8 : decode cX11_book 8 = .ok (.invokevirtual 122, 3) := by decide +kernel
theorem dX11_book_11 : decode cX11_book 11 = .ok (.aload_n 0, 1) := by decide +kernel
theorem dX11_book_12 : decode cX11_book 12 = .ok (.getfield 10, 3) := by decide +kernel
theorem dX11_book_15 : decode cX11_book 15 = .ok (.iload_n 2, 1) := by decide +kernel
theorem dX11_book_16 : decode cX11_book 16 = .ok (.invokevirtual 125, 3) := by decide +kernel
theorem dX11_book_19 : decode cX11_book 19 = .ok (.aload_n 0, 1) := by decide +kernel
theorem dX11_book_20 : decode cX11_book 20 = .ok (.getfield 36, 3) := by decide +kernel
theorem dX11_book_23 : decode cX11_book 23 = .ok (.aload_n 0, 1) := by decide +kernel
theorem dX11_book_24 : decode cX11_book 24 = .ok (.getfield 10, 3) := by decide +kernel
theorem dX11_book_27 : decode cX11_book 27 = .ok (.invokevirtual 128, 3) := by decide +kernel
theorem dX11_book_30 : decode cX11_book 30 = .ok (.aload_n 0, 1) := by decide +kernel
theorem dX11_book_31 : decode cX11_book 31 = .ok (.getfield 10, 3) := by decide +kernel
theorem dX11_book_34 : decode cX11_book 34 = .ok (.getfield 132, 3) := by decide +kernel
theorem dX11_book_37 : decode cX11_book 37 = .ok (.ifCond .ne 18, 3) := by decide +kernel
theorem dX11_book_40 : decode cX11_book 40 = .ok (.aload_n 0, 1) := by decide +kernel
theorem dX11_book_41 : decode cX11_book 41 = .ok (.getfield 18, 3) := by decide +kernel
theorem dX11_book_44 : decode cX11_book 44 = .ok (.iload_n 1, 1) := by decide +kernel
theorem dX11_book_45 : decode cX11_book 45 = .ok (.aload_n 0, 1) := by decide +kernel
theorem dX11_book_46 : decode cX11_book 46 = .ok (.getfield 36, 3) := by decide +kernel
theorem dX11_book_49 : decode cX11_book 49 = .ok (.aastore, 1) := by decide +kernel
theorem dX11_book_50 : decode cX11_book 50 = .ok (.aload_n 0, 1) := by decide +kernel
theorem dX11_book_51 : decode cX11_book 51 = .ok (.aload_n 3, 1) := by decide +kernel
theorem dX11_book_52 : decode cX11_book 52 = .ok (.putfield 36, 3) := by decide +kernel
theorem dX11_book_55 : decode cX11_book 55 = .ok (.aload_n 0, 1) := by decide +kernel
theorem dX11_book_56 : decode cX11_book 56 = .ok (.invokevirtual 135, 3) := by decide +kernel
theorem dX11_book_59 : decode cX11_book 59 = .ok (.ireturn, 1) := by decide +kernel
theorem dX11_law_0 : decode cX11_law 0 = .ok (.aload_n 0, 1) := by decide +kernel
theorem dX11_law_1 : decode cX11_law 1 = .ok (.iload_n 1, 1) := by decide +kernel
theorem dX11_law_2 : decode cX11_law 2 = .ok (.invokevirtual 122, 3) := by decide +kernel
theorem dX11_law_5 : decode cX11_law 5 = .ok (.aload_n 0, 1) := by decide +kernel
theorem dX11_law_6 : decode cX11_law 6 = .ok (.getfield 10, 3) := by decide +kernel
theorem dX11_law_9 : decode cX11_law 9 = .ok (.iload_n 1, 1) := by decide +kernel
theorem dX11_law_10 : decode cX11_law 10 = .ok (.invokevirtual 125, 3) := by decide +kernel
theorem dX11_law_13 : decode cX11_law 13 = .ok (.aload_n 0, 1) := by decide +kernel
theorem dX11_law_14 : decode cX11_law 14 = .ok (.getfield 45, 3) := by decide +kernel
theorem dX11_law_17 : decode cX11_law 17 = .ok (.aload_n 0, 1) := by decide +kernel
theorem dX11_law_18 : decode cX11_law 18 = .ok (.getfield 10, 3) := by decide +kernel
theorem dX11_law_21 : decode cX11_law 21 = .ok (.invokevirtual 139, 3) := by decide +kernel
theorem dX11_law_24 : decode cX11_law 24 = .ok (.aload_n 0, 1) := by decide +kernel
theorem dX11_law_25 : decode cX11_law 25 = .ok (.getfield 10, 3) := by decide +kernel
theorem dX11_law_28 : decode cX11_law 28 = .ok (.getfield 132, 3) := by decide +kernel
theorem dX11_law_31 : decode cX11_law 31 = .ok (.ifCond .ne 21, 3) := by decide +kernel
theorem dX11_law_34 : decode cX11_law 34 = .ok (.aload_n 0, 1) := by decide +kernel
theorem dX11_law_35 : decode cX11_law 35 = .ok (.getfield 31, 3) := by decide +kernel
theorem dX11_law_38 : decode cX11_law 38 = .ok (.astore_n 2, 1) := by decide +kernel
theorem dX11_law_39 : decode cX11_law 39 = .ok (.aload_n 0, 1) := by decide +kernel
theorem dX11_law_40 : decode cX11_law 40 = .ok (.aload_n 0, 1) := by decide +kernel
theorem dX11_law_41 : decode cX11_law 41 = .ok (.getfield 45, 3) := by decide +kernel
theorem dX11_law_44 : decode cX11_law 44 = .ok (.putfield 31, 3) := by decide +kernel
theorem dX11_law_47 : decode cX11_law 47 = .ok (.aload_n 0, 1) := by decide +kernel
theorem dX11_law_48 : decode cX11_law 48 = .ok (.aload_n 2, 1) := by decide +kernel
theorem dX11_law_49 : decode cX11_law 49 = .ok (.putfield 45, 3) := by decide +kernel
theorem dX11_law_52 : decode cX11_law 52 = .ok (.aload_n 0, 1) := by decide +kernel
theorem dX11_law_53 : decode cX11_law 53 = .ok (.invokevirtual 135, 3) := by decide +kernel
theorem dX11_law_56 : decode cX11_law 56 = .ok (.ireturn, 1) := by decide +kernel
theorem dX11_way_0 : decode cX11_way 0 = .ok (.aload_n 0, 1) := by decide +kernel
theorem dX11_way_1 : decode cX11_way 1 = .ok (.iload_n 1, 1) := by decide +kernel
theorem dX11_way_2 : decode cX11_way 2 = .ok (.invokevirtual 140, 3) := by decide +kernel
theorem dX11_way_5 : decode cX11_way 5 = .ok (.astore_n 3, 1) := by decide +kernel
theorem dX11_way_6 : decode cX11_way 6 = .ok (.aload_n 0, 1) := by decide +kernel
theorem dX11_way_7 : decode cX11_way 7 = .ok (.iload_n 2, 1) := by decide +kernel
theorem dX11_way_8 : decode cX11_way 8 = .ok (.invokevirtual 122, 3) := by decide +kernel
theorem dX11_way_11 : decode cX11_way 11 = .ok (.aload_n 0, 1) := by decide +kernel
theorem dX11_way_12 : decode cX11_way 12 = .ok (.getfield 10, 3) := by decide +kernel
theorem dX11_way_15 : decode cX11_way 15 = .ok (.iload_n 2, 1) := by decide +kernel
theorem dX11_way_16 : decode cX11_way 16 = .ok (.invokevirtual 125, 3) := by decide +kernel
theorem dX11_way_19 : decode cX11_way 19 = .ok (.aload_n 0, 1) := by decide +kernel
theorem dX11_way_20 : decode cX11_way 20 = .ok (.getfield 41, 3) := by decide +kernel
theorem dX11_way_23 : decode cX11_way 23 = .ok (.aload_n 0, 1) := by decide +kernel
theorem dX11_way_24 : decode cX11_way 24 = .ok (.getfield 10, 3) := by decide +kernel
theorem dX11_way_27 : decode cX11_way 27 = .ok (.invokevirtual 144, 3) := by decide +kernel
theorem dX11_way_30 : decode cX11_way 30 = .ok (.aload_n 0, 1) := by decide +kernel
theorem dX11_way_31 : decode cX11_way 31 = .ok (.getfield 10, 3) := by decide +kernel
theorem dX11_way_34 : decode cX11_way 34 = .ok (.getfield 132, 3) := by decide +kernel
theorem dX11_way_37 : decode cX11_way 37 = .ok (.ifCond .ne 18, 3) := by decide +kernel
theorem dX11_way_40 : decode cX11_way 40 = .ok (.aload_n 0, 1) := by decide +kernel
theorem dX11_way_41 : decode cX11_way 41 = .ok (.getfield 24, 3) := by decide +kernel
theorem dX11_way_44 : decode cX11_way 44 = .ok (.iload_n 1, 1) := by decide +kernel
theorem dX11_way_45 : decode cX11_way 45 = .ok (.aload_n 0, 1) := by decide +kernel
theorem dX11_way_46 : decode cX11_way 46 = .ok (.getfield 41, 3) := by decide +kernel
theorem dX11_way_49 : decode cX11_way 49 = .ok (.aastore, 1) := by decide +kernel
theorem dX11_way_50 : decode cX11_way 50 = .ok (.aload_n 0, 1) := by decide +kernel
theorem dX11_way_51 : decode cX11_way 51 = .ok (.aload_n 3, 1) := by decide +kernel
theorem dX11_way_52 : decode cX11_way 52 = .ok (.putfield 41, 3) := by decide +kernel
theorem dX11_way_55 : decode cX11_way 55 = .ok (.aload_n 0, 1) := by decide +kernel
theorem dX11_way_56 : decode cX11_way 56 = .ok (.invokevirtual 135, 3) := by decide +kernel
theorem dX11_way_59 : decode cX11_way 59 = .ok (.ireturn, 1) := by decide +kernel
theorem dX11_fault_0 : decode cX11_fault 0 = .ok (.aload_n 0, 1) := by decide +kernel
theorem dX11_fault_1 : decode cX11_fault 1 = .ok (.getfield 10, 3) := by decide +kernel
theorem dX11_fault_4 : decode cX11_fault 4 = .ok (.getfield 145, 3) := by decide +kernel
theorem dX11_fault_7 : decode cX11_fault 7 = .ok (.ireturn, 1) := by decide +kernel
theorem dX11_count_0 : decode cX11_count 0 = .ok (.iload_n 1, 1) := by decide +kernel
theorem dX11_count_1 : decode cX11_count 1 = .ok (.tableswitch 75 0 4 #[35, 43, 51, 59, 67], 35) := by decide +kernel
theorem dX11_count_36 : decode cX11_count 36 = .ok (.aload_n 0, 1) := by decide +kernel
theorem dX11_count_37 : decode cX11_count 37 = .ok (.getfield 31, 3) := by decide +kernel
theorem dX11_count_40 : decode cX11_count 40 = .ok (.getfield 148, 3) := by decide +kernel
theorem dX11_count_43 : decode cX11_count 43 = .ok (.ireturn, 1) := by decide +kernel
theorem dX11_count_44 : decode cX11_count 44 = .ok (.aload_n 0, 1) := by decide +kernel
theorem dX11_count_45 : decode cX11_count 45 = .ok (.getfield 31, 3) := by decide +kernel
theorem dX11_count_48 : decode cX11_count 48 = .ok (.getfield 151, 3) := by decide +kernel
theorem dX11_count_51 : decode cX11_count 51 = .ok (.ireturn, 1) := by decide +kernel
theorem dX11_count_52 : decode cX11_count 52 = .ok (.aload_n 0, 1) := by decide +kernel
theorem dX11_count_53 : decode cX11_count 53 = .ok (.getfield 31, 3) := by decide +kernel
theorem dX11_count_56 : decode cX11_count 56 = .ok (.getfield 154, 3) := by decide +kernel
theorem dX11_count_59 : decode cX11_count 59 = .ok (.ireturn, 1) := by decide +kernel
theorem dX11_count_60 : decode cX11_count 60 = .ok (.aload_n 0, 1) := by decide +kernel
theorem dX11_count_61 : decode cX11_count 61 = .ok (.getfield 10, 3) := by decide +kernel
theorem dX11_count_64 : decode cX11_count 64 = .ok (.getfield 110, 3) := by decide +kernel
theorem dX11_count_67 : decode cX11_count 67 = .ok (.ireturn, 1) := by decide +kernel
theorem dX11_count_68 : decode cX11_count 68 = .ok (.aload_n 0, 1) := by decide +kernel
theorem dX11_count_69 : decode cX11_count 69 = .ok (.getfield 51, 3) := by decide +kernel
theorem dX11_count_72 : decode cX11_count 72 = .ok (.getfield 157, 3) := by decide +kernel
theorem dX11_count_75 : decode cX11_count 75 = .ok (.ireturn, 1) := by decide +kernel
theorem dX11_count_76 : decode cX11_count 76 = .ok (.aload_n 0, 1) := by decide +kernel
theorem dX11_count_77 : decode cX11_count 77 = .ok (.iload_n 1, 1) := by decide +kernel
theorem dX11_count_78 : decode cX11_count 78 = .ok (.iconst 5, 1) := by decide +kernel
theorem dX11_count_79 : decode cX11_count 79 = .ok (.isub, 1) := by decide +kernel
theorem dX11_count_80 : decode cX11_count 80 = .ok (.invokevirtual 160, 3) := by decide +kernel
theorem dX11_count_83 : decode cX11_count 83 = .ok (.ireturn, 1) := by decide +kernel
theorem dX11_about_0 : decode cX11_about 0 = .ok (.aload_n 0, 1) := by decide +kernel
theorem dX11_about_1 : decode cX11_about 1 = .ok (.iload_n 1, 1) := by decide +kernel
theorem dX11_about_2 : decode cX11_about 2 = .ok (.invokevirtual 118, 3) := by decide +kernel
theorem dX11_about_5 : decode cX11_about 5 = .ok (.astore_n 3, 1) := by decide +kernel
theorem dX11_about_6 : decode cX11_about 6 = .ok (.iload_n 2, 1) := by decide +kernel
theorem dX11_about_7 : decode cX11_about 7 = .ok (.tableswitch 84 0 6 #[41, 46, 51, 56, 61, 74, 79], 41) := by decide +kernel
theorem dX11_about_48 : decode cX11_about 48 = .ok (.aload_n 3, 1) := by decide +kernel
theorem dX11_about_49 : decode cX11_about 49 = .ok (.getfield 164, 3) := by decide +kernel
theorem dX11_about_52 : decode cX11_about 52 = .ok (.ireturn, 1) := by decide +kernel
theorem dX11_about_53 : decode cX11_about 53 = .ok (.aload_n 3, 1) := by decide +kernel
theorem dX11_about_54 : decode cX11_about 54 = .ok (.getfield 167, 3) := by decide +kernel
theorem dX11_about_57 : decode cX11_about 57 = .ok (.ireturn, 1) := by decide +kernel
theorem dX11_about_58 : decode cX11_about 58 = .ok (.aload_n 3, 1) := by decide +kernel
theorem dX11_about_59 : decode cX11_about 59 = .ok (.getfield 170, 3) := by decide +kernel
theorem dX11_about_62 : decode cX11_about 62 = .ok (.ireturn, 1) := by decide +kernel
theorem dX11_about_63 : decode cX11_about 63 = .ok (.aload_n 3, 1) := by decide +kernel
theorem dX11_about_64 : decode cX11_about 64 = .ok (.getfield 173, 3) := by decide +kernel
theorem dX11_about_67 : decode cX11_about 67 = .ok (.ireturn, 1) := by decide +kernel
theorem dX11_about_68 : decode cX11_about 68 = .ok (.aload_n 3, 1) := by decide +kernel
theorem dX11_about_69 : decode cX11_about 69 = .ok (.invokevirtual 176, 3) := by decide +kernel
theorem dX11_about_72 : decode cX11_about 72 = .ok (.ifCond .eq 7, 3) := by decide +kernel
theorem dX11_about_75 : decode cX11_about 75 = .ok (.iconst 1, 1) := by decide +kernel
theorem dX11_about_76 : decode cX11_about 76 = .ok (.goto 4, 3) := by decide +kernel
theorem dX11_about_79 : decode cX11_about 79 = .ok (.iconst 0, 1) := by decide +kernel
theorem dX11_about_80 : decode cX11_about 80 = .ok (.ireturn, 1) := by decide +kernel
theorem dX11_about_81 : decode cX11_about 81 = .ok (.aload_n 3, 1) := by decide +kernel
theorem dX11_about_82 : decode cX11_about 82 = .ok (.getfield 180, 3) := by decide +kernel
theorem dX11_about_85 : decode cX11_about 85 = .ok (.ireturn, 1) := by decide +kernel
theorem dX11_about_86 : decode cX11_about 86 = .ok (.aload_n 3, 1) := by decide +kernel
theorem dX11_about_87 : decode cX11_about 87 = .ok (.getfield 183, 3) := by decide +kernel
theorem dX11_about_90 : decode cX11_about 90 = .ok (.ireturn, 1) := by decide +kernel
theorem dX11_about_91 : decode cX11_about 91 = .ok (.new 186, 3) := by decide +kernel
theorem dX11_about_94 : decode cX11_about 94 = .ok (.dup, 1) := by decide +kernel
theorem dX11_about_95 : decode cX11_about 95 = .ok (.ldc 188, 2) := by decide +kernel
theorem dX11_about_97 : decode cX11_about 97 = .ok (.invokespecial 190, 3) := by decide +kernel
theorem dX11_about_100 : decode cX11_about 100 = .ok (.athrow, 1) := by decide +kernel
theorem dX11_leaf_0 : decode cX11_leaf 0 = .ok (.aload_n 0, 1) := by decide +kernel
theorem dX11_leaf_1 : decode cX11_leaf 1 = .ok (.iload_n 1, 1) := by decide +kernel
theorem dX11_leaf_2 : decode cX11_leaf 2 = .ok (.iload_n 2, 1) := by decide +kernel
theorem dX11_leaf_3 : decode cX11_leaf 3 = .ok (.invokevirtual 193, 3) := by decide +kernel
theorem dX11_leaf_6 : decode cX11_leaf 6 = .ok (.astore 4, 2) := by decide +kernel
theorem dX11_leaf_8 : decode cX11_leaf 8 = .ok (.iload_n 3, 1) := by decide +kernel
theorem dX11_leaf_9 : decode cX11_leaf 9 = .ok (.tableswitch 87 0 5 #[39, 47, 55, 63, 71, 79], 39) := by decide +kernel
theorem dX11_leaf_48 : decode cX11_leaf 48 = .ok (.aload 4, 2) := by decide +kernel
theorem dX11_leaf_50 : decode cX11_leaf 50 = .ok (.getfield 197, 3) := by decide +kernel
theorem dX11_leaf_53 : decode cX11_leaf 53 = .ok (.iload_n 2, 1) := by decide +kernel
theorem dX11_leaf_54 : decode cX11_leaf 54 = .ok (.iaload, 1) := by decide +kernel
theorem dX11_leaf_55 : decode cX11_leaf 55 = .ok (.ireturn, 1) := by decide +kernel
theorem dX11_leaf_56 : decode cX11_leaf 56 = .ok (.aload 4, 2) := by decide +kernel
theorem dX11_leaf_58 : decode cX11_leaf 58 = .ok (.getfield 200, 3) := by decide +kernel
theorem dX11_leaf_61 : decode cX11_leaf 61 = .ok (.iload_n 2, 1) := by decide +kernel
theorem dX11_leaf_62 : decode cX11_leaf 62 = .ok (.iaload, 1) := by decide +kernel
theorem dX11_leaf_63 : decode cX11_leaf 63 = .ok (.ireturn, 1) := by decide +kernel
theorem dX11_leaf_64 : decode cX11_leaf 64 = .ok (.aload 4, 2) := by decide +kernel
theorem dX11_leaf_66 : decode cX11_leaf 66 = .ok (.getfield 203, 3) := by decide +kernel
theorem dX11_leaf_69 : decode cX11_leaf 69 = .ok (.iload_n 2, 1) := by decide +kernel
theorem dX11_leaf_70 : decode cX11_leaf 70 = .ok (.iaload, 1) := by decide +kernel
theorem dX11_leaf_71 : decode cX11_leaf 71 = .ok (.ireturn, 1) := by decide +kernel
theorem dX11_leaf_72 : decode cX11_leaf 72 = .ok (.aload 4, 2) := by decide +kernel
theorem dX11_leaf_74 : decode cX11_leaf 74 = .ok (.getfield 206, 3) := by decide +kernel
theorem dX11_leaf_77 : decode cX11_leaf 77 = .ok (.iload_n 2, 1) := by decide +kernel
theorem dX11_leaf_78 : decode cX11_leaf 78 = .ok (.iaload, 1) := by decide +kernel
theorem dX11_leaf_79 : decode cX11_leaf 79 = .ok (.ireturn, 1) := by decide +kernel
theorem dX11_leaf_80 : decode cX11_leaf 80 = .ok (.aload 4, 2) := by decide +kernel
theorem dX11_leaf_82 : decode cX11_leaf 82 = .ok (.getfield 209, 3) := by decide +kernel
theorem dX11_leaf_85 : decode cX11_leaf 85 = .ok (.iload_n 2, 1) := by decide +kernel
theorem dX11_leaf_86 : decode cX11_leaf 86 = .ok (.iaload, 1) := by decide +kernel
theorem dX11_leaf_87 : decode cX11_leaf 87 = .ok (.ireturn, 1) := by decide +kernel
theorem dX11_leaf_88 : decode cX11_leaf 88 = .ok (.aload 4, 2) := by decide +kernel
theorem dX11_leaf_90 : decode cX11_leaf 90 = .ok (.getfield 212, 3) := by decide +kernel
theorem dX11_leaf_93 : decode cX11_leaf 93 = .ok (.iload_n 2, 1) := by decide +kernel
theorem dX11_leaf_94 : decode cX11_leaf 94 = .ok (.iaload, 1) := by decide +kernel
theorem dX11_leaf_95 : decode cX11_leaf 95 = .ok (.ireturn, 1) := by decide +kernel
theorem dX11_leaf_96 : decode cX11_leaf 96 = .ok (.new 186, 3) := by decide +kernel
theorem dX11_leaf_99 : decode cX11_leaf 99 = .ok (.dup, 1) := by decide +kernel
theorem dX11_leaf_100 : decode cX11_leaf 100 = .ok (.ldc 188, 2) := by decide +kernel
theorem dX11_leaf_102 : decode cX11_leaf 102 = .ok (.invokespecial 190, 3) := by decide +kernel
theorem dX11_leaf_105 : decode cX11_leaf 105 = .ok (.athrow, 1) := by decide +kernel
theorem dX11_turnings_0 : decode cX11_turnings 0 = .ok (.aload_n 0, 1) := by decide +kernel
theorem dX11_turnings_1 : decode cX11_turnings 1 = .ok (.iload_n 1, 1) := by decide +kernel
theorem dX11_turnings_2 : decode cX11_turnings 2 = .ok (.invokevirtual 140, 3) := by decide +kernel
theorem dX11_turnings_5 : decode cX11_turnings 5 = .ok (.astore 4, 2) := by decide +kernel
theorem dX11_turnings_7 : decode cX11_turnings 7 = .ok (.iload_n 2, 1) := by decide +kernel
theorem dX11_turnings_8 : decode cX11_turnings 8 = .ok (.invokestatic 215, 3) := by decide +kernel
theorem dX11_turnings_11 : decode cX11_turnings 11 = .ok (.iload_n 3, 1) := by decide +kernel
theorem dX11_turnings_12 : decode cX11_turnings 12 = .ok (.ifCond .lt 9, 3) := by decide +kernel
theorem dX11_turnings_15 : decode cX11_turnings 15 = .ok (.iload_n 3, 1) := by decide +kernel
theorem dX11_turnings_16 : decode cX11_turnings 16 = .ok (.bipush 20, 2) := by decide +kernel
theorem dX11_turnings_18 : decode cX11_turnings 18 = .ok (.if_icmp .lt 13, 3) := by decide +kernel
theorem dX11_turnings_21 : decode cX11_turnings 21 = .ok (.new 186, 3) := by decide +kernel
theorem dX11_turnings_24 : decode cX11_turnings 24 = .ok (.dup, 1) := by decide +kernel
theorem dX11_turnings_25 : decode cX11_turnings 25 = .ok (.ldc 218, 2) := by decide +kernel
theorem dX11_turnings_27 : decode cX11_turnings 27 = .ok (.invokespecial 190, 3) := by decide +kernel
theorem dX11_turnings_30 : decode cX11_turnings 30 = .ok (.athrow, 1) := by decide +kernel
theorem dX11_turnings_31 : decode cX11_turnings 31 = .ok (.aload 4, 2) := by decide +kernel
theorem dX11_turnings_33 : decode cX11_turnings 33 = .ok (.iload_n 2, 1) := by decide +kernel
theorem dX11_turnings_34 : decode cX11_turnings 34 = .ok (.iload_n 3, 1) := by decide +kernel
theorem dX11_turnings_35 : decode cX11_turnings 35 = .ok (.invokevirtual 220, 3) := by decide +kernel
theorem dX11_turnings_38 : decode cX11_turnings 38 = .ok (.ireturn, 1) := by decide +kernel
theorem dX11_reader_0 : decode cX11_reader 0 = .ok (.aload_n 0, 1) := by decide +kernel
theorem dX11_reader_1 : decode cX11_reader 1 = .ok (.iload_n 1, 1) := by decide +kernel
theorem dX11_reader_2 : decode cX11_reader 2 = .ok (.invokevirtual 118, 3) := by decide +kernel
theorem dX11_reader_5 : decode cX11_reader 5 = .ok (.astore 5, 2) := by decide +kernel
theorem dX11_reader_7 : decode cX11_reader 7 = .ok (.aload_n 0, 1) := by decide +kernel
theorem dX11_reader_8 : decode cX11_reader 8 = .ok (.iload_n 2, 1) := by decide +kernel
theorem dX11_reader_9 : decode cX11_reader 9 = .ok (.invokevirtual 140, 3) := by decide +kernel
theorem dX11_reader_12 : decode cX11_reader 12 = .ok (.pop, 1) := by decide +kernel
theorem dX11_reader_13 : decode cX11_reader 13 = .ok (.aload 5, 2) := by decide +kernel
theorem dX11_reader_15 : decode cX11_reader 15 = .ok (.getfield 170, 3) := by decide +kernel
theorem dX11_reader_18 : decode cX11_reader 18 = .ok (.bipush 8, 2) := by decide +kernel
theorem dX11_reader_20 : decode cX11_reader 20 = .ok (.if_icmp .ge 21, 3) := by decide +kernel
theorem dX11_reader_23 : decode cX11_reader 23 = .ok (.iload_n 3, 1) := by decide +kernel
theorem dX11_reader_24 : decode cX11_reader 24 = .ok (.ifCond .lt 17, 3) := by decide +kernel
theorem dX11_reader_27 : decode cX11_reader 27 = .ok (.iload 4, 2) := by decide +kernel
theorem dX11_reader_29 : decode cX11_reader 29 = .ok (.sipush 500, 3) := by decide +kernel
theorem dX11_reader_32 : decode cX11_reader 32 = .ok (.if_icmp .gt 9, 3) := by decide +kernel
theorem dX11_reader_35 : decode cX11_reader 35 = .ok (.iload_n 3, 1) := by decide +kernel
theorem dX11_reader_36 : decode cX11_reader 36 = .ok (.iload 4, 2) := by decide +kernel
theorem dX11_reader_38 : decode cX11_reader 38 = .ok (.if_icmp .le 15, 3) := by decide +kernel
theorem dX11_reader_41 : decode cX11_reader 41 = .ok (.aload_n 0, 1) := by decide +kernel
theorem dX11_reader_42 : decode cX11_reader 42 = .ok (.getfield 55, 3) := by decide +kernel
theorem dX11_reader_45 : decode cX11_reader 45 = .ok (.iconst 2, 1) := by decide +kernel
theorem dX11_reader_46 : decode cX11_reader 46 = .ok (.dup2, 1) := by decide +kernel
theorem dX11_reader_47 : decode cX11_reader 47 = .ok (.iaload, 1) := by decide +kernel
theorem dX11_reader_48 : decode cX11_reader 48 = .ok (.iconst 1, 1) := by decide +kernel
theorem dX11_reader_49 : decode cX11_reader 49 = .ok (.iadd, 1) := by decide +kernel
theorem dX11_reader_50 : decode cX11_reader 50 = .ok (.iastore, 1) := by decide +kernel
theorem dX11_reader_51 : decode cX11_reader 51 = .ok (.iconst (-1), 1) := by decide +kernel
theorem dX11_reader_52 : decode cX11_reader 52 = .ok (.ireturn, 1) := by decide +kernel
theorem dX11_reader_53 : decode cX11_reader 53 = .ok (.aload 5, 2) := by decide +kernel
theorem dX11_reader_55 : decode cX11_reader 55 = .ok (.iload_n 2, 1) := by decide +kernel
theorem dX11_reader_56 : decode cX11_reader 56 = .ok (.iload_n 3, 1) := by decide +kernel
theorem dX11_reader_57 : decode cX11_reader 57 = .ok (.iload 4, 2) := by decide +kernel
theorem dX11_reader_59 : decode cX11_reader 59 = .ok (.invokevirtual 224, 3) := by decide +kernel
theorem dX11_reader_62 : decode cX11_reader 62 = .ok (.aload 5, 2) := by decide +kernel
theorem dX11_reader_64 : decode cX11_reader 64 = .ok (.getfield 170, 3) := by decide +kernel
theorem dX11_reader_67 : decode cX11_reader 67 = .ok (.ireturn, 1) := by decide +kernel
theorem dX11_gone_0 : decode cX11_gone 0 = .ok (.aload_n 0, 1) := by decide +kernel
theorem dX11_gone_1 : decode cX11_gone 1 = .ok (.iload_n 1, 1) := by decide +kernel
theorem dX11_gone_2 : decode cX11_gone 2 = .ok (.invokevirtual 118, 3) := by decide +kernel
theorem dX11_gone_5 : decode cX11_gone 5 = .ok (.astore_n 2, 1) := by decide +kernel
theorem dX11_gone_6 : decode cX11_gone 6 = .ok (.aload_n 2, 1) := by decide +kernel
theorem dX11_gone_7 : decode cX11_gone 7 = .ok (.getfield 170, 3) := by decide +kernel
theorem dX11_gone_10 : decode cX11_gone 10 = .ok (.iconst 1, 1) := by decide +kernel
theorem dX11_gone_11 : decode cX11_gone 11 = .ok (.if_icmp .ge 5, 3) := by decide +kernel
theorem dX11_gone_14 : decode cX11_gone 14 = .ok (.iconst (-1), 1) := by decide +kernel
theorem dX11_gone_15 : decode cX11_gone 15 = .ok (.ireturn, 1) := by decide +kernel
theorem dX11_gone_16 : decode cX11_gone 16 = .ok (.aload_n 2, 1) := by decide +kernel
theorem dX11_gone_17 : decode cX11_gone 17 = .ok (.dup, 1) := by decide +kernel
theorem dX11_gone_18 : decode cX11_gone 18 = .ok (.getfield 170, 3) := by decide +kernel
theorem dX11_gone_21 : decode cX11_gone 21 = .ok (.iconst 1, 1) := by decide +kernel
theorem dX11_gone_22 : decode cX11_gone 22 = .ok (.isub, 1) := by decide +kernel
theorem dX11_gone_23 : decode cX11_gone 23 = .ok (.putfield 170, 3) := by decide +kernel
theorem dX11_gone_26 : decode cX11_gone 26 = .ok (.aload_n 2, 1) := by decide +kernel
theorem dX11_gone_27 : decode cX11_gone 27 = .ok (.getfield 170, 3) := by decide +kernel
theorem dX11_gone_30 : decode cX11_gone 30 = .ok (.ireturn, 1) := by decide +kernel
theorem dX11_dirt_0 : decode cX11_dirt 0 = .ok (.aload_n 0, 1) := by decide +kernel
theorem dX11_dirt_1 : decode cX11_dirt 1 = .ok (.iload_n 1, 1) := by decide +kernel
theorem dX11_dirt_2 : decode cX11_dirt 2 = .ok (.iload_n 2, 1) := by decide +kernel
theorem dX11_dirt_3 : decode cX11_dirt 3 = .ok (.invokevirtual 193, 3) := by decide +kernel
theorem dX11_dirt_6 : decode cX11_dirt 6 = .ok (.astore 4, 2) := by decide +kernel
theorem dX11_dirt_8 : decode cX11_dirt 8 = .ok (.iload_n 3, 1) := by decide +kernel
theorem dX11_dirt_9 : decode cX11_dirt 9 = .ok (.tableswitch 116 0 3 #[31, 46, 70, 101], 31) := by decide +kernel
theorem dX11_dirt_40 : decode cX11_dirt 40 = .ok (.aload 4, 2) := by decide +kernel
theorem dX11_dirt_42 : decode cX11_dirt 42 = .ok (.aload_n 0, 1) := by decide +kernel
theorem dX11_dirt_43 : decode cX11_dirt 43 = .ok (.getfield 24, 3) := by decide +kernel
theorem dX11_dirt_46 : decode cX11_dirt 46 = .ok (.aload_n 0, 1) := by decide +kernel
theorem dX11_dirt_47 : decode cX11_dirt 47 = .ok (.getfield 31, 3) := by decide +kernel
theorem dX11_dirt_50 : decode cX11_dirt 50 = .ok (.iload_n 2, 1) := by decide +kernel
theorem dX11_dirt_51 : decode cX11_dirt 51 = .ok (.invokevirtual 228, 3) := by decide +kernel
theorem dX11_dirt_54 : decode cX11_dirt 54 = .ok (.ireturn, 1) := by decide +kernel
theorem dX11_dirt_55 : decode cX11_dirt 55 = .ok (.aload 4, 2) := by decide +kernel
theorem dX11_dirt_57 : decode cX11_dirt 57 = .ok (.aload_n 0, 1) := by decide +kernel
theorem dX11_dirt_58 : decode cX11_dirt 58 = .ok (.getfield 107, 3) := by decide +kernel
theorem dX11_dirt_61 : decode cX11_dirt 61 = .ok (.aload_n 0, 1) := by decide +kernel
theorem dX11_dirt_62 : decode cX11_dirt 62 = .ok (.getfield 24, 3) := by decide +kernel
theorem dX11_dirt_65 : decode cX11_dirt 65 = .ok (.aload_n 0, 1) := by decide +kernel
theorem dX11_dirt_66 : decode cX11_dirt 66 = .ok (.getfield 31, 3) := by decide +kernel
theorem dX11_dirt_69 : decode cX11_dirt 69 = .ok (.invokevirtual 232, 3) := by decide +kernel
theorem dX11_dirt_72 : decode cX11_dirt 72 = .ok (.aload_n 0, 1) := by decide +kernel
theorem dX11_dirt_73 : decode cX11_dirt 73 = .ok (.getfield 107, 3) := by decide +kernel
theorem dX11_dirt_76 : decode cX11_dirt 76 = .ok (.iload_n 2, 1) := by decide +kernel
theorem dX11_dirt_77 : decode cX11_dirt 77 = .ok (.iaload, 1) := by decide +kernel
theorem dX11_dirt_78 : decode cX11_dirt 78 = .ok (.ireturn, 1) := by decide +kernel
theorem dX11_dirt_79 : decode cX11_dirt 79 = .ok (.aload 4, 2) := by decide +kernel
theorem dX11_dirt_81 : decode cX11_dirt 81 = .ok (.aload_n 0, 1) := by decide +kernel
theorem dX11_dirt_82 : decode cX11_dirt 82 = .ok (.getfield 107, 3) := by decide +kernel
theorem dX11_dirt_85 : decode cX11_dirt 85 = .ok (.aload_n 0, 1) := by decide +kernel
theorem dX11_dirt_86 : decode cX11_dirt 86 = .ok (.getfield 24, 3) := by decide +kernel
theorem dX11_dirt_89 : decode cX11_dirt 89 = .ok (.aload_n 0, 1) := by decide +kernel
theorem dX11_dirt_90 : decode cX11_dirt 90 = .ok (.getfield 31, 3) := by decide +kernel
theorem dX11_dirt_93 : decode cX11_dirt 93 = .ok (.invokevirtual 232, 3) := by decide +kernel
theorem dX11_dirt_96 : decode cX11_dirt 96 = .ok (.aload 4, 2) := by decide +kernel
theorem dX11_dirt_98 : decode cX11_dirt 98 = .ok (.iload_n 2, 1) := by decide +kernel
theorem dX11_dirt_99 : decode cX11_dirt 99 = .ok (.invokevirtual 236, 3) := by decide +kernel
theorem dX11_dirt_102 : decode cX11_dirt 102 = .ok (.aload_n 0, 1) := by decide +kernel
theorem dX11_dirt_103 : decode cX11_dirt 103 = .ok (.getfield 107, 3) := by decide +kernel
theorem dX11_dirt_106 : decode cX11_dirt 106 = .ok (.iload_n 2, 1) := by decide +kernel
theorem dX11_dirt_107 : decode cX11_dirt 107 = .ok (.iaload, 1) := by decide +kernel
theorem dX11_dirt_108 : decode cX11_dirt 108 = .ok (.iadd, 1) := by decide +kernel
theorem dX11_dirt_109 : decode cX11_dirt 109 = .ok (.ireturn, 1) := by decide +kernel
theorem dX11_dirt_110 : decode cX11_dirt 110 = .ok (.aload 4, 2) := by decide +kernel
theorem dX11_dirt_112 : decode cX11_dirt 112 = .ok (.aload_n 0, 1) := by decide +kernel
theorem dX11_dirt_113 : decode cX11_dirt 113 = .ok (.getfield 24, 3) := by decide +kernel
theorem dX11_dirt_116 : decode cX11_dirt 116 = .ok (.iload_n 2, 1) := by decide +kernel
theorem dX11_dirt_117 : decode cX11_dirt 117 = .ok (.iconst 0, 1) := by decide +kernel
theorem dX11_dirt_118 : decode cX11_dirt 118 = .ok (.sipush 500, 3) := by decide +kernel
theorem dX11_dirt_121 : decode cX11_dirt 121 = .ok (.invokevirtual 239, 3) := by decide +kernel
theorem dX11_dirt_124 : decode cX11_dirt 124 = .ok (.ireturn, 1) := by decide +kernel
theorem dX11_dirt_125 : decode cX11_dirt 125 = .ok (.new 186, 3) := by decide +kernel
theorem dX11_dirt_128 : decode cX11_dirt 128 = .ok (.dup, 1) := by decide +kernel
theorem dX11_dirt_129 : decode cX11_dirt 129 = .ok (.ldc 188, 2) := by decide +kernel
theorem dX11_dirt_131 : decode cX11_dirt 131 = .ok (.invokespecial 190, 3) := by decide +kernel
theorem dX11_dirt_134 : decode cX11_dirt 134 = .ok (.athrow, 1) := by decide +kernel
theorem dX11_drawn_0 : decode cX11_drawn 0 = .ok (.aload_n 0, 1) := by decide +kernel
theorem dX11_drawn_1 : decode cX11_drawn 1 = .ok (.iload_n 1, 1) := by decide +kernel
theorem dX11_drawn_2 : decode cX11_drawn 2 = .ok (.invokevirtual 118, 3) := by decide +kernel
theorem dX11_drawn_5 : decode cX11_drawn 5 = .ok (.astore_n 3, 1) := by decide +kernel
theorem dX11_drawn_6 : decode cX11_drawn 6 = .ok (.aload_n 0, 1) := by decide +kernel
theorem dX11_drawn_7 : decode cX11_drawn 7 = .ok (.aload_n 3, 1) := by decide +kernel
theorem dX11_drawn_8 : decode cX11_drawn 8 = .ok (.invokevirtual 243, 3) := by decide +kernel
theorem dX11_drawn_11 : decode cX11_drawn 11 = .ok (.iload_n 2, 1) := by decide +kernel
theorem dX11_drawn_12 : decode cX11_drawn 12 = .ok (.istore 4, 2) := by decide +kernel
theorem dX11_drawn_14 : decode cX11_drawn 14 = .ok (.iconst 0, 1) := by decide +kernel
theorem dX11_drawn_15 : decode cX11_drawn 15 = .ok (.istore 5, 2) := by decide +kernel
theorem dX11_drawn_17 : decode cX11_drawn 17 = .ok (.iconst 0, 1) := by decide +kernel
theorem dX11_drawn_18 : decode cX11_drawn 18 = .ok (.istore 6, 2) := by decide +kernel
theorem dX11_drawn_20 : decode cX11_drawn 20 = .ok (.iload 6, 2) := by decide +kernel
theorem dX11_drawn_22 : decode cX11_drawn 22 = .ok (.aload_n 3, 1) := by decide +kernel
theorem dX11_drawn_23 : decode cX11_drawn 23 = .ok (.getfield 164, 3) := by decide +kernel
theorem dX11_drawn_26 : decode cX11_drawn 26 = .ok (.if_icmp .ge 46, 3) := by decide +kernel
theorem dX11_drawn_29 : decode cX11_drawn 29 = .ok (.iload 4, 2) := by decide +kernel
theorem dX11_drawn_31 : decode cX11_drawn 31 = .ok (.invokestatic 247, 3) := by decide +kernel
theorem dX11_drawn_34 : decode cX11_drawn 34 = .ok (.istore 4, 2) := by decide +kernel
theorem dX11_drawn_36 : decode cX11_drawn 36 = .ok (.aload_n 3, 1) := by decide +kernel
theorem dX11_drawn_37 : decode cX11_drawn 37 = .ok (.getfield 250, 3) := by decide +kernel
theorem dX11_drawn_40 : decode cX11_drawn 40 = .ok (.iload 6, 2) := by decide +kernel
theorem dX11_drawn_42 : decode cX11_drawn 42 = .ok (.aload_n 0, 1) := by decide +kernel
theorem dX11_drawn_43 : decode cX11_drawn 43 = .ok (.iload 6, 2) := by decide +kernel
theorem dX11_drawn_45 : decode cX11_drawn 45 = .ok (.iload 4, 2) := by decide +kernel
theorem dX11_drawn_47 : decode cX11_drawn 47 = .ok (.invokevirtual 253, 3) := by decide +kernel
theorem dX11_drawn_50 : decode cX11_drawn 50 = .ok (.aload_n 0, 1) := by decide +kernel
theorem dX11_drawn_51 : decode cX11_drawn 51 = .ok (.getfield 31, 3) := by decide +kernel
theorem dX11_drawn_54 : decode cX11_drawn 54 = .ok (.getfield 154, 3) := by decide +kernel
theorem dX11_drawn_57 : decode cX11_drawn 57 = .ok (.invokevirtual 256, 3) := by decide +kernel
theorem dX11_drawn_60 : decode cX11_drawn 60 = .ok (.ifCond .ne 6, 3) := by decide +kernel
theorem dX11_drawn_63 : decode cX11_drawn 63 = .ok (.iinc 5 1, 3) := by decide +kernel
theorem dX11_drawn_66 : decode cX11_drawn 66 = .ok (.iinc 6 1, 3) := by decide +kernel
theorem dX11_drawn_69 : decode cX11_drawn 69 = .ok (.goto (-49), 3) := by decide +kernel
theorem dX11_drawn_72 : decode cX11_drawn 72 = .ok (.aload_n 0, 1) := by decide +kernel
theorem dX11_drawn_73 : decode cX11_drawn 73 = .ok (.getfield 55, 3) := by decide +kernel
theorem dX11_drawn_76 : decode cX11_drawn 76 = .ok (.iconst 1, 1) := by decide +kernel
theorem dX11_drawn_77 : decode cX11_drawn 77 = .ok (.dup2, 1) := by decide +kernel
theorem dX11_drawn_78 : decode cX11_drawn 78 = .ok (.iaload, 1) := by decide +kernel
theorem dX11_drawn_79 : decode cX11_drawn 79 = .ok (.iload 5, 2) := by decide +kernel
theorem dX11_drawn_81 : decode cX11_drawn 81 = .ok (.iadd, 1) := by decide +kernel
theorem dX11_drawn_82 : decode cX11_drawn 82 = .ok (.iastore, 1) := by decide +kernel
theorem dX11_drawn_83 : decode cX11_drawn 83 = .ok (.iload 5, 2) := by decide +kernel
theorem dX11_drawn_85 : decode cX11_drawn 85 = .ok (.ireturn, 1) := by decide +kernel
theorem dX11_read_0 : decode cX11_read 0 = .ok (.aload_n 0, 1) := by decide +kernel
theorem dX11_read_1 : decode cX11_read 1 = .ok (.iload_n 1, 1) := by decide +kernel
theorem dX11_read_2 : decode cX11_read 2 = .ok (.iload_n 2, 1) := by decide +kernel
theorem dX11_read_3 : decode cX11_read 3 = .ok (.invokevirtual 193, 3) := by decide +kernel
theorem dX11_read_6 : decode cX11_read 6 = .ok (.astore 4, 2) := by decide +kernel
theorem dX11_read_8 : decode cX11_read 8 = .ok (.aload 4, 2) := by decide +kernel
theorem dX11_read_10 : decode cX11_read 10 = .ok (.getfield 250, 3) := by decide +kernel
theorem dX11_read_13 : decode cX11_read 13 = .ok (.iload_n 2, 1) := by decide +kernel
theorem dX11_read_14 : decode cX11_read 14 = .ok (.iload_n 3, 1) := by decide +kernel
theorem dX11_read_15 : decode cX11_read 15 = .ok (.aload_n 0, 1) := by decide +kernel
theorem dX11_read_16 : decode cX11_read 16 = .ok (.getfield 31, 3) := by decide +kernel
theorem dX11_read_19 : decode cX11_read 19 = .ok (.getfield 154, 3) := by decide +kernel
theorem dX11_read_22 : decode cX11_read 22 = .ok (.invokevirtual 256, 3) := by decide +kernel
theorem dX11_read_25 : decode cX11_read 25 = .ok (.ifCond .eq 5, 3) := by decide +kernel
theorem dX11_read_28 : decode cX11_read 28 = .ok (.iconst 1, 1) := by decide +kernel
theorem dX11_read_29 : decode cX11_read 29 = .ok (.ireturn, 1) := by decide +kernel
theorem dX11_read_30 : decode cX11_read 30 = .ok (.aload_n 0, 1) := by decide +kernel
theorem dX11_read_31 : decode cX11_read 31 = .ok (.getfield 55, 3) := by decide +kernel
theorem dX11_read_34 : decode cX11_read 34 = .ok (.iconst 1, 1) := by decide +kernel
theorem dX11_read_35 : decode cX11_read 35 = .ok (.dup2, 1) := by decide +kernel
theorem dX11_read_36 : decode cX11_read 36 = .ok (.iaload, 1) := by decide +kernel
theorem dX11_read_37 : decode cX11_read 37 = .ok (.iconst 1, 1) := by decide +kernel
theorem dX11_read_38 : decode cX11_read 38 = .ok (.iadd, 1) := by decide +kernel
theorem dX11_read_39 : decode cX11_read 39 = .ok (.iastore, 1) := by decide +kernel
theorem dX11_read_40 : decode cX11_read 40 = .ok (.iconst 0, 1) := by decide +kernel
theorem dX11_read_41 : decode cX11_read 41 = .ok (.ireturn, 1) := by decide +kernel
theorem dX11_bounds_0 : decode cX11_bounds 0 = .ok (.aload_n 0, 1) := by decide +kernel
theorem dX11_bounds_1 : decode cX11_bounds 1 = .ok (.iload_n 1, 1) := by decide +kernel
theorem dX11_bounds_2 : decode cX11_bounds 2 = .ok (.iload_n 2, 1) := by decide +kernel
theorem dX11_bounds_3 : decode cX11_bounds 3 = .ok (.invokevirtual 193, 3) := by decide +kernel
theorem dX11_bounds_6 : decode cX11_bounds 6 = .ok (.astore 4, 2) := by decide +kernel
theorem dX11_bounds_8 : decode cX11_bounds 8 = .ok (.iload_n 3, 1) := by decide +kernel
theorem dX11_bounds_9 : decode cX11_bounds 9 = .ok (.ifCond .lt 21, 3) := by decide +kernel
theorem dX11_bounds_12 : decode cX11_bounds 12 = .ok (.iload_n 3, 1) := by decide +kernel
theorem dX11_bounds_13 : decode cX11_bounds 13 = .ok (.bipush 7, 2) := by decide +kernel
theorem dX11_bounds_15 : decode cX11_bounds 15 = .ok (.if_icmp .gt 15, 3) := by decide +kernel
theorem dX11_bounds_18 : decode cX11_bounds 18 = .ok (.aload 4, 2) := by decide +kernel
theorem dX11_bounds_20 : decode cX11_bounds 20 = .ok (.getfield 250, 3) := by decide +kernel
theorem dX11_bounds_23 : decode cX11_bounds 23 = .ok (.iload_n 2, 1) := by decide +kernel
theorem dX11_bounds_24 : decode cX11_bounds 24 = .ok (.invokevirtual 260, 3) := by decide +kernel
theorem dX11_bounds_27 : decode cX11_bounds 27 = .ok (.ifCond .ne 13, 3) := by decide +kernel
theorem dX11_bounds_30 : decode cX11_bounds 30 = .ok (.new 186, 3) := by decide +kernel
theorem dX11_bounds_33 : decode cX11_bounds 33 = .ok (.dup, 1) := by decide +kernel
theorem dX11_bounds_34 : decode cX11_bounds 34 = .ok (.ldc 188, 2) := by decide +kernel
theorem dX11_bounds_36 : decode cX11_bounds 36 = .ok (.invokespecial 190, 3) := by decide +kernel
theorem dX11_bounds_39 : decode cX11_bounds 39 = .ok (.athrow, 1) := by decide +kernel
theorem dX11_bounds_40 : decode cX11_bounds 40 = .ok (.iload_n 3, 1) := by decide +kernel
theorem dX11_bounds_41 : decode cX11_bounds 41 = .ok (.iconst 2, 1) := by decide +kernel
theorem dX11_bounds_42 : decode cX11_bounds 42 = .ok (.if_icmp .ge 31, 3) := by decide +kernel
theorem dX11_bounds_45 : decode cX11_bounds 45 = .ok (.iload_n 3, 1) := by decide +kernel
theorem dX11_bounds_46 : decode cX11_bounds 46 = .ok (.ifCond .ne 16, 3) := by decide +kernel
theorem dX11_bounds_49 : decode cX11_bounds 49 = .ok (.aload 4, 2) := by decide +kernel
theorem dX11_bounds_51 : decode cX11_bounds 51 = .ok (.getfield 250, 3) := by decide +kernel
theorem dX11_bounds_54 : decode cX11_bounds 54 = .ok (.getfield 264, 3) := by decide +kernel
theorem dX11_bounds_57 : decode cX11_bounds 57 = .ok (.iload_n 2, 1) := by decide +kernel
theorem dX11_bounds_58 : decode cX11_bounds 58 = .ok (.iaload, 1) := by decide +kernel
theorem dX11_bounds_59 : decode cX11_bounds 59 = .ok (.goto 13, 3) := by decide +kernel
theorem dX11_bounds_62 : decode cX11_bounds 62 = .ok (.aload 4, 2) := by decide +kernel
theorem dX11_bounds_64 : decode cX11_bounds 64 = .ok (.getfield 250, 3) := by decide +kernel
theorem dX11_bounds_67 : decode cX11_bounds 67 = .ok (.getfield 267, 3) := by decide +kernel
theorem dX11_bounds_70 : decode cX11_bounds 70 = .ok (.iload_n 2, 1) := by decide +kernel
theorem dX11_bounds_71 : decode cX11_bounds 71 = .ok (.iaload, 1) := by decide +kernel
theorem dX11_bounds_72 : decode cX11_bounds 72 = .ok (.ireturn, 1) := by decide +kernel
theorem dX11_bounds_73 : decode cX11_bounds 73 = .ok (.aload 4, 2) := by decide +kernel
theorem dX11_bounds_75 : decode cX11_bounds 75 = .ok (.iload_n 2, 1) := by decide +kernel
theorem dX11_bounds_76 : decode cX11_bounds 76 = .ok (.invokestatic 270, 3) := by decide +kernel
theorem dX11_bounds_79 : decode cX11_bounds 79 = .ok (.aload_n 0, 1) := by decide +kernel
theorem dX11_bounds_80 : decode cX11_bounds 80 = .ok (.getfield 65, 3) := by decide +kernel
theorem dX11_bounds_83 : decode cX11_bounds 83 = .ok (.aload 4, 2) := by decide +kernel
theorem dX11_bounds_85 : decode cX11_bounds 85 = .ok (.aload 4, 2) := by decide +kernel
theorem dX11_bounds_87 : decode cX11_bounds 87 = .ok (.getfield 250, 3) := by decide +kernel
theorem dX11_bounds_90 : decode cX11_bounds 90 = .ok (.aload_n 0, 1) := by decide +kernel
theorem dX11_bounds_91 : decode cX11_bounds 91 = .ok (.getfield 31, 3) := by decide +kernel
theorem dX11_bounds_94 : decode cX11_bounds 94 = .ok (.invokevirtual 274, 3) := by decide +kernel
theorem dX11_bounds_97 : decode cX11_bounds 97 = .ok (.iload_n 3, 1) := by decide +kernel
theorem dX11_bounds_98 : decode cX11_bounds 98 = .ok (.tableswitch 84 2 6 #[34, 44, 54, 64, 74], 34) := by decide +kernel
theorem dX11_bounds_132 : decode cX11_bounds 132 = .ok (.aload_n 0, 1) := by decide +kernel
theorem dX11_bounds_133 : decode cX11_bounds 133 = .ok (.getfield 65, 3) := by decide +kernel
theorem dX11_bounds_136 : decode cX11_bounds 136 = .ok (.getfield 278, 3) := by decide +kernel
theorem dX11_bounds_139 : decode cX11_bounds 139 = .ok (.iload_n 2, 1) := by decide +kernel
theorem dX11_bounds_140 : decode cX11_bounds 140 = .ok (.iaload, 1) := by decide +kernel
theorem dX11_bounds_141 : decode cX11_bounds 141 = .ok (.ireturn, 1) := by decide +kernel
theorem dX11_bounds_142 : decode cX11_bounds 142 = .ok (.aload_n 0, 1) := by decide +kernel
theorem dX11_bounds_143 : decode cX11_bounds 143 = .ok (.getfield 65, 3) := by decide +kernel
theorem dX11_bounds_146 : decode cX11_bounds 146 = .ok (.getfield 279, 3) := by decide +kernel
theorem dX11_bounds_149 : decode cX11_bounds 149 = .ok (.iload_n 2, 1) := by decide +kernel
theorem dX11_bounds_150 : decode cX11_bounds 150 = .ok (.iaload, 1) := by decide +kernel
theorem dX11_bounds_151 : decode cX11_bounds 151 = .ok (.ireturn, 1) := by decide +kernel
theorem dX11_bounds_152 : decode cX11_bounds 152 = .ok (.aload_n 0, 1) := by decide +kernel
theorem dX11_bounds_153 : decode cX11_bounds 153 = .ok (.getfield 65, 3) := by decide +kernel
theorem dX11_bounds_156 : decode cX11_bounds 156 = .ok (.getfield 280, 3) := by decide +kernel
theorem dX11_bounds_159 : decode cX11_bounds 159 = .ok (.iload_n 2, 1) := by decide +kernel
theorem dX11_bounds_160 : decode cX11_bounds 160 = .ok (.iaload, 1) := by decide +kernel
theorem dX11_bounds_161 : decode cX11_bounds 161 = .ok (.ireturn, 1) := by decide +kernel
theorem dX11_bounds_162 : decode cX11_bounds 162 = .ok (.aload_n 0, 1) := by decide +kernel
theorem dX11_bounds_163 : decode cX11_bounds 163 = .ok (.getfield 65, 3) := by decide +kernel
theorem dX11_bounds_166 : decode cX11_bounds 166 = .ok (.getfield 283, 3) := by decide +kernel
theorem dX11_bounds_169 : decode cX11_bounds 169 = .ok (.iload_n 2, 1) := by decide +kernel
theorem dX11_bounds_170 : decode cX11_bounds 170 = .ok (.iaload, 1) := by decide +kernel
theorem dX11_bounds_171 : decode cX11_bounds 171 = .ok (.ireturn, 1) := by decide +kernel
theorem dX11_bounds_172 : decode cX11_bounds 172 = .ok (.aload_n 0, 1) := by decide +kernel
theorem dX11_bounds_173 : decode cX11_bounds 173 = .ok (.getfield 65, 3) := by decide +kernel
theorem dX11_bounds_176 : decode cX11_bounds 176 = .ok (.getfield 286, 3) := by decide +kernel
theorem dX11_bounds_179 : decode cX11_bounds 179 = .ok (.iload_n 2, 1) := by decide +kernel
theorem dX11_bounds_180 : decode cX11_bounds 180 = .ok (.iaload, 1) := by decide +kernel
theorem dX11_bounds_181 : decode cX11_bounds 181 = .ok (.ireturn, 1) := by decide +kernel
theorem dX11_bounds_182 : decode cX11_bounds 182 = .ok (.aload_n 0, 1) := by decide +kernel
theorem dX11_bounds_183 : decode cX11_bounds 183 = .ok (.getfield 65, 3) := by decide +kernel
theorem dX11_bounds_186 : decode cX11_bounds 186 = .ok (.iload_n 2, 1) := by decide +kernel
theorem dX11_bounds_187 : decode cX11_bounds 187 = .ok (.invokevirtual 289, 3) := by decide +kernel
theorem dX11_bounds_190 : decode cX11_bounds 190 = .ok (.ifCond .eq 7, 3) := by decide +kernel
theorem dX11_bounds_193 : decode cX11_bounds 193 = .ok (.iconst 1, 1) := by decide +kernel
theorem dX11_bounds_194 : decode cX11_bounds 194 = .ok (.goto 4, 3) := by decide +kernel
theorem dX11_bounds_197 : decode cX11_bounds 197 = .ok (.iconst 0, 1) := by decide +kernel
theorem dX11_bounds_198 : decode cX11_bounds 198 = .ok (.ireturn, 1) := by decide +kernel
theorem dX11_light_0 : decode cX11_light 0 = .ok (.aload_n 0, 1) := by decide +kernel
theorem dX11_light_1 : decode cX11_light 1 = .ok (.iload_n 1, 1) := by decide +kernel
theorem dX11_light_2 : decode cX11_light 2 = .ok (.aload_n 0, 1) := by decide +kernel
theorem dX11_light_3 : decode cX11_light 3 = .ok (.getfield 65, 3) := by decide +kernel
theorem dX11_light_6 : decode cX11_light 6 = .ok (.invokevirtual 292, 3) := by decide +kernel
theorem dX11_light_9 : decode cX11_light 9 = .ok (.pop, 1) := by decide +kernel
theorem dX11_light_10 : decode cX11_light 10 = .ok (.aload_n 0, 1) := by decide +kernel
theorem dX11_light_11 : decode cX11_light 11 = .ok (.getfield 65, 3) := by decide +kernel
theorem dX11_light_14 : decode cX11_light 14 = .ok (.iload_n 2, 1) := by decide +kernel
theorem dX11_light_15 : decode cX11_light 15 = .ok (.invokestatic 296, 3) := by decide +kernel
theorem dX11_light_18 : decode cX11_light 18 = .ok (.aload_n 0, 1) := by decide +kernel
theorem dX11_light_19 : decode cX11_light 19 = .ok (.getfield 65, 3) := by decide +kernel
theorem dX11_light_22 : decode cX11_light 22 = .ok (.getfield 300, 3) := by decide +kernel
theorem dX11_light_25 : decode cX11_light 25 = .ok (.iload_n 2, 1) := by decide +kernel
theorem dX11_light_26 : decode cX11_light 26 = .ok (.iaload, 1) := by decide +kernel
theorem dX11_light_27 : decode cX11_light 27 = .ok (.ireturn, 1) := by decide +kernel
theorem dX11_sleepy_0 : decode cX11_sleepy 0 = .ok (.aload_n 0, 1) := by decide +kernel
theorem dX11_sleepy_1 : decode cX11_sleepy 1 = .ok (.iload_n 1, 1) := by decide +kernel
theorem dX11_sleepy_2 : decode cX11_sleepy 2 = .ok (.aload_n 0, 1) := by decide +kernel
theorem dX11_sleepy_3 : decode cX11_sleepy 3 = .ok (.getfield 65, 3) := by decide +kernel
theorem dX11_sleepy_6 : decode cX11_sleepy 6 = .ok (.invokevirtual 292, 3) := by decide +kernel
theorem dX11_sleepy_9 : decode cX11_sleepy 9 = .ok (.astore_n 3, 1) := by decide +kernel
theorem dX11_sleepy_10 : decode cX11_sleepy 10 = .ok (.iload_n 2, 1) := by decide +kernel
theorem dX11_sleepy_11 : decode cX11_sleepy 11 = .ok (.tableswitch 63 0 2 #[25, 35, 45], 25) := by decide +kernel
theorem dX11_sleepy_36 : decode cX11_sleepy 36 = .ok (.aload_n 0, 1) := by decide +kernel
theorem dX11_sleepy_37 : decode cX11_sleepy 37 = .ok (.getfield 65, 3) := by decide +kernel
theorem dX11_sleepy_40 : decode cX11_sleepy 40 = .ok (.aload_n 3, 1) := by decide +kernel
theorem dX11_sleepy_41 : decode cX11_sleepy 41 = .ok (.iconst 1, 1) := by decide +kernel
theorem dX11_sleepy_42 : decode cX11_sleepy 42 = .ok (.invokevirtual 303, 3) := by decide +kernel
theorem dX11_sleepy_45 : decode cX11_sleepy 45 = .ok (.ireturn, 1) := by decide +kernel
theorem dX11_sleepy_46 : decode cX11_sleepy 46 = .ok (.aload_n 0, 1) := by decide +kernel
theorem dX11_sleepy_47 : decode cX11_sleepy 47 = .ok (.getfield 65, 3) := by decide +kernel
theorem dX11_sleepy_50 : decode cX11_sleepy 50 = .ok (.aload_n 3, 1) := by decide +kernel
theorem dX11_sleepy_51 : decode cX11_sleepy 51 = .ok (.iconst 0, 1) := by decide +kernel
theorem dX11_sleepy_52 : decode cX11_sleepy 52 = .ok (.invokevirtual 303, 3) := by decide +kernel
theorem dX11_sleepy_55 : decode cX11_sleepy 55 = .ok (.ireturn, 1) := by decide +kernel
theorem dX11_sleepy_56 : decode cX11_sleepy 56 = .ok (.aload_n 0, 1) := by decide +kernel
theorem dX11_sleepy_57 : decode cX11_sleepy 57 = .ok (.getfield 75, 3) := by decide +kernel
theorem dX11_sleepy_60 : decode cX11_sleepy 60 = .ok (.aload_n 3, 1) := by decide +kernel
theorem dX11_sleepy_61 : decode cX11_sleepy 61 = .ok (.aload_n 0, 1) := by decide +kernel
theorem dX11_sleepy_62 : decode cX11_sleepy 62 = .ok (.getfield 65, 3) := by decide +kernel
theorem dX11_sleepy_65 : decode cX11_sleepy 65 = .ok (.aload_n 3, 1) := by decide +kernel
theorem dX11_sleepy_66 : decode cX11_sleepy 66 = .ok (.iconst 1, 1) := by decide +kernel
theorem dX11_sleepy_67 : decode cX11_sleepy 67 = .ok (.invokevirtual 303, 3) := by decide +kernel
theorem dX11_sleepy_70 : decode cX11_sleepy 70 = .ok (.invokevirtual 307, 3) := by decide +kernel
theorem dX11_sleepy_73 : decode cX11_sleepy 73 = .ok (.ireturn, 1) := by decide +kernel
theorem dX11_sleepy_74 : decode cX11_sleepy 74 = .ok (.new 186, 3) := by decide +kernel
theorem dX11_sleepy_77 : decode cX11_sleepy 77 = .ok (.dup, 1) := by decide +kernel
theorem dX11_sleepy_78 : decode cX11_sleepy 78 = .ok (.ldc 188, 2) := by decide +kernel
theorem dX11_sleepy_80 : decode cX11_sleepy 80 = .ok (.invokespecial 190, 3) := by decide +kernel
theorem dX11_sleepy_83 : decode cX11_sleepy 83 = .ok (.athrow, 1) := by decide +kernel
theorem dX11_humps_0 : decode cX11_humps 0 = .ok (.aload_n 0, 1) := by decide +kernel
theorem dX11_humps_1 : decode cX11_humps 1 = .ok (.iload_n 1, 1) := by decide +kernel
theorem dX11_humps_2 : decode cX11_humps 2 = .ok (.aload_n 0, 1) := by decide +kernel
theorem dX11_humps_3 : decode cX11_humps 3 = .ok (.getfield 65, 3) := by decide +kernel
theorem dX11_humps_6 : decode cX11_humps 6 = .ok (.invokevirtual 292, 3) := by decide +kernel
theorem dX11_humps_9 : decode cX11_humps 9 = .ok (.pop, 1) := by decide +kernel
theorem dX11_humps_10 : decode cX11_humps 10 = .ok (.aload_n 0, 1) := by decide +kernel
theorem dX11_humps_11 : decode cX11_humps 11 = .ok (.iload_n 2, 1) := by decide +kernel
theorem dX11_humps_12 : decode cX11_humps 12 = .ok (.invokevirtual 311, 3) := by decide +kernel
theorem dX11_humps_15 : decode cX11_humps 15 = .ok (.lreturn, 1) := by decide +kernel
theorem dX11_hump_0 : decode cX11_hump 0 = .ok (.aload_n 0, 1) := by decide +kernel
theorem dX11_hump_1 : decode cX11_hump 1 = .ok (.iload_n 1, 1) := by decide +kernel
theorem dX11_hump_2 : decode cX11_hump 2 = .ok (.aload_n 0, 1) := by decide +kernel
theorem dX11_hump_3 : decode cX11_hump 3 = .ok (.getfield 65, 3) := by decide +kernel
theorem dX11_hump_6 : decode cX11_hump 6 = .ok (.invokevirtual 292, 3) := by decide +kernel
theorem dX11_hump_9 : decode cX11_hump 9 = .ok (.pop, 1) := by decide +kernel
theorem dX11_hump_10 : decode cX11_hump 10 = .ok (.aload_n 0, 1) := by decide +kernel
theorem dX11_hump_11 : decode cX11_hump 11 = .ok (.getfield 65, 3) := by decide +kernel
theorem dX11_hump_14 : decode cX11_hump 14 = .ok (.iload_n 3, 1) := by decide +kernel
theorem dX11_hump_15 : decode cX11_hump 15 = .ok (.invokestatic 296, 3) := by decide +kernel
theorem dX11_hump_18 : decode cX11_hump 18 = .ok (.aload_n 0, 1) := by decide +kernel
theorem dX11_hump_19 : decode cX11_hump 19 = .ok (.iload_n 2, 1) := by decide +kernel
theorem dX11_hump_20 : decode cX11_hump 20 = .ok (.invokevirtual 311, 3) := by decide +kernel
theorem dX11_hump_23 : decode cX11_hump 23 = .ok (.pop2, 1) := by decide +kernel
theorem dX11_hump_24 : decode cX11_hump 24 = .ok (.aload_n 0, 1) := by decide +kernel
theorem dX11_hump_25 : decode cX11_hump 25 = .ok (.getfield 82, 3) := by decide +kernel
theorem dX11_hump_28 : decode cX11_hump 28 = .ok (.iload_n 3, 1) := by decide +kernel
theorem dX11_hump_29 : decode cX11_hump 29 = .ok (.invokevirtual 315, 3) := by decide +kernel
theorem dX11_hump_32 : decode cX11_hump 32 = .ok (.ireturn, 1) := by decide +kernel
theorem dX11_fitted_0 : decode cX11_fitted 0 = .ok (.aload_n 0, 1) := by decide +kernel
theorem dX11_fitted_1 : decode cX11_fitted 1 = .ok (.iload_n 1, 1) := by decide +kernel
theorem dX11_fitted_2 : decode cX11_fitted 2 = .ok (.aload_n 0, 1) := by decide +kernel
theorem dX11_fitted_3 : decode cX11_fitted 3 = .ok (.getfield 65, 3) := by decide +kernel
theorem dX11_fitted_6 : decode cX11_fitted 6 = .ok (.invokevirtual 292, 3) := by decide +kernel
theorem dX11_fitted_9 : decode cX11_fitted 9 = .ok (.astore 4, 2) := by decide +kernel
theorem dX11_fitted_11 : decode cX11_fitted 11 = .ok (.aload_n 0, 1) := by decide +kernel
theorem dX11_fitted_12 : decode cX11_fitted 12 = .ok (.iload_n 2, 1) := by decide +kernel
theorem dX11_fitted_13 : decode cX11_fitted 13 = .ok (.invokevirtual 140, 3) := by decide +kernel
theorem dX11_fitted_16 : decode cX11_fitted 16 = .ok (.astore 5, 2) := by decide +kernel
theorem dX11_fitted_18 : decode cX11_fitted 18 = .ok (.iload_n 3, 1) := by decide +kernel
theorem dX11_fitted_19 : decode cX11_fitted 19 = .ok (.iconst (-1), 1) := by decide +kernel
theorem dX11_fitted_20 : decode cX11_fitted 20 = .ok (.if_icmp .ne 7, 3) := by decide +kernel
theorem dX11_fitted_23 : decode cX11_fitted 23 = .ok (.aconst_null, 1) := by decide +kernel
theorem dX11_fitted_24 : decode cX11_fitted 24 = .ok (.goto 8, 3) := by decide +kernel
theorem dX11_fitted_27 : decode cX11_fitted 27 = .ok (.aload_n 0, 1) := by decide +kernel
theorem dX11_fitted_28 : decode cX11_fitted 28 = .ok (.iload_n 3, 1) := by decide +kernel
theorem dX11_fitted_29 : decode cX11_fitted 29 = .ok (.invokevirtual 140, 3) := by decide +kernel
theorem dX11_fitted_32 : decode cX11_fitted 32 = .ok (.astore 6, 2) := by decide +kernel
theorem dX11_fitted_34 : decode cX11_fitted 34 = .ok (.aload_n 0, 1) := by decide +kernel
theorem dX11_fitted_35 : decode cX11_fitted 35 = .ok (.getfield 89, 3) := by decide +kernel
theorem dX11_fitted_38 : decode cX11_fitted 38 = .ok (.aload 4, 2) := by decide +kernel
theorem dX11_fitted_40 : decode cX11_fitted 40 = .ok (.aload_n 0, 1) := by decide +kernel
theorem dX11_fitted_41 : decode cX11_fitted 41 = .ok (.getfield 65, 3) := by decide +kernel
theorem dX11_fitted_44 : decode cX11_fitted 44 = .ok (.getfield 286, 3) := by decide +kernel
theorem dX11_fitted_47 : decode cX11_fitted 47 = .ok (.aload 5, 2) := by decide +kernel
theorem dX11_fitted_49 : decode cX11_fitted 49 = .ok (.aload 6, 2) := by decide +kernel
theorem dX11_fitted_51 : decode cX11_fitted 51 = .ok (.invokevirtual 318, 3) := by decide +kernel
theorem dX11_fitted_54 : decode cX11_fitted 54 = .ok (.ireturn, 1) := by decide +kernel
theorem dX11_years_0 : decode cX11_years 0 = .ok (.aload_n 0, 1) := by decide +kernel
theorem dX11_years_1 : decode cX11_years 1 = .ok (.getfield 89, 3) := by decide +kernel
theorem dX11_years_4 : decode cX11_years 4 = .ok (.getfield 322, 3) := by decide +kernel
theorem dX11_years_7 : decode cX11_years 7 = .ok (.ifCond .eq 12, 3) := by decide +kernel
theorem dX11_years_10 : decode cX11_years 10 = .ok (.iload_n 1, 1) := by decide +kernel
theorem dX11_years_11 : decode cX11_years 11 = .ok (.ifCond .lt 8, 3) := by decide +kernel
theorem dX11_years_14 : decode cX11_years 14 = .ok (.iload_n 1, 1) := by decide +kernel
theorem dX11_years_15 : decode cX11_years 15 = .ok (.iconst 1, 1) := by decide +kernel
theorem dX11_years_16 : decode cX11_years 16 = .ok (.if_icmp .le 13, 3) := by decide +kernel
theorem dX11_years_19 : decode cX11_years 19 = .ok (.new 186, 3) := by decide +kernel
theorem dX11_years_22 : decode cX11_years 22 = .ok (.dup, 1) := by decide +kernel
theorem dX11_years_23 : decode cX11_years 23 = .ok (.ldc 188, 2) := by decide +kernel
theorem dX11_years_25 : decode cX11_years 25 = .ok (.invokespecial 190, 3) := by decide +kernel
theorem dX11_years_28 : decode cX11_years 28 = .ok (.athrow, 1) := by decide +kernel
theorem dX11_years_29 : decode cX11_years 29 = .ok (.iload_n 1, 1) := by decide +kernel
theorem dX11_years_30 : decode cX11_years 30 = .ok (.ifCond .ne 13, 3) := by decide +kernel
theorem dX11_years_33 : decode cX11_years 33 = .ok (.aload_n 0, 1) := by decide +kernel
theorem dX11_years_34 : decode cX11_years 34 = .ok (.getfield 89, 3) := by decide +kernel
theorem dX11_years_37 : decode cX11_years 37 = .ok (.getfield 326, 3) := by decide +kernel
theorem dX11_years_40 : decode cX11_years 40 = .ok (.goto 10, 3) := by decide +kernel
theorem dX11_years_43 : decode cX11_years 43 = .ok (.aload_n 0, 1) := by decide +kernel
theorem dX11_years_44 : decode cX11_years 44 = .ok (.getfield 89, 3) := by decide +kernel
theorem dX11_years_47 : decode cX11_years 47 = .ok (.getfield 329, 3) := by decide +kernel
theorem dX11_years_50 : decode cX11_years 50 = .ok (.ireturn, 1) := by decide +kernel
theorem dX11_whose_0 : decode cX11_whose 0 = .ok (.aload_n 0, 1) := by decide +kernel
theorem dX11_whose_1 : decode cX11_whose 1 = .ok (.iload_n 1, 1) := by decide +kernel
theorem dX11_whose_2 : decode cX11_whose 2 = .ok (.aload_n 0, 1) := by decide +kernel
theorem dX11_whose_3 : decode cX11_whose 3 = .ok (.getfield 65, 3) := by decide +kernel
theorem dX11_whose_6 : decode cX11_whose 6 = .ok (.invokevirtual 292, 3) := by decide +kernel
theorem dX11_whose_9 : decode cX11_whose 9 = .ok (.astore_n 2, 1) := by decide +kernel
theorem dX11_whose_10 : decode cX11_whose 10 = .ok (.aload_n 0, 1) := by decide +kernel
theorem dX11_whose_11 : decode cX11_whose 11 = .ok (.aload_n 2, 1) := by decide +kernel
theorem dX11_whose_12 : decode cX11_whose 12 = .ok (.aload_n 0, 1) := by decide +kernel
theorem dX11_whose_13 : decode cX11_whose 13 = .ok (.getfield 65, 3) := by decide +kernel
theorem dX11_whose_16 : decode cX11_whose 16 = .ok (.invokevirtual 332, 3) := by decide +kernel
theorem dX11_whose_19 : decode cX11_whose 19 = .ok (.ireturn, 1) := by decide +kernel
theorem dX11_order_0 : decode cX11_order 0 = .ok (.aload_n 0, 1) := by decide +kernel
theorem dX11_order_1 : decode cX11_order 1 = .ok (.iload_n 1, 1) := by decide +kernel
theorem dX11_order_2 : decode cX11_order 2 = .ok (.aload_n 0, 1) := by decide +kernel
theorem dX11_order_3 : decode cX11_order 3 = .ok (.getfield 65, 3) := by decide +kernel
theorem dX11_order_6 : decode cX11_order 6 = .ok (.invokevirtual 292, 3) := by decide +kernel
theorem dX11_order_9 : decode cX11_order 9 = .ok (.astore_n 3, 1) := by decide +kernel
theorem dX11_order_10 : decode cX11_order 10 = .ok (.aload_n 0, 1) := by decide +kernel
theorem dX11_order_11 : decode cX11_order 11 = .ok (.getfield 96, 3) := by decide +kernel
theorem dX11_order_14 : decode cX11_order 14 = .ok (.aload_n 3, 1) := by decide +kernel
theorem dX11_order_15 : decode cX11_order 15 = .ok (.aload_n 0, 1) := by decide +kernel
theorem dX11_order_16 : decode cX11_order 16 = .ok (.getfield 31, 3) := by decide +kernel
theorem dX11_order_19 : decode cX11_order 19 = .ok (.invokevirtual 336, 3) := by decide +kernel
theorem dX11_order_22 : decode cX11_order 22 = .ok (.iload_n 2, 1) := by decide +kernel
theorem dX11_order_23 : decode cX11_order 23 = .ok (.ifCond .ne 11, 3) := by decide +kernel
theorem dX11_order_26 : decode cX11_order 26 = .ok (.aload_n 0, 1) := by decide +kernel
theorem dX11_order_27 : decode cX11_order 27 = .ok (.getfield 96, 3) := by decide +kernel
theorem dX11_order_30 : decode cX11_order 30 = .ok (.invokevirtual 339, 3) := by decide +kernel
theorem dX11_order_33 : decode cX11_order 33 = .ok (.ireturn, 1) := by decide +kernel
theorem dX11_order_34 : decode cX11_order 34 = .ok (.aload_n 0, 1) := by decide +kernel
theorem dX11_order_35 : decode cX11_order 35 = .ok (.getfield 96, 3) := by decide +kernel
theorem dX11_order_38 : decode cX11_order 38 = .ok (.invokevirtual 342, 3) := by decide +kernel
theorem dX11_order_41 : decode cX11_order 41 = .ok (.iload_n 2, 1) := by decide +kernel
theorem dX11_order_42 : decode cX11_order 42 = .ok (.tableswitch 50 1 3 #[26, 34, 42], 26) := by decide +kernel
theorem dX11_order_68 : decode cX11_order 68 = .ok (.aload_n 0, 1) := by decide +kernel
theorem dX11_order_69 : decode cX11_order 69 = .ok (.getfield 96, 3) := by decide +kernel
theorem dX11_order_72 : decode cX11_order 72 = .ok (.getfield 345, 3) := by decide +kernel
theorem dX11_order_75 : decode cX11_order 75 = .ok (.ireturn, 1) := by decide +kernel
theorem dX11_order_76 : decode cX11_order 76 = .ok (.aload_n 0, 1) := by decide +kernel
theorem dX11_order_77 : decode cX11_order 77 = .ok (.getfield 96, 3) := by decide +kernel
theorem dX11_order_80 : decode cX11_order 80 = .ok (.getfield 348, 3) := by decide +kernel
theorem dX11_order_83 : decode cX11_order 83 = .ok (.ireturn, 1) := by decide +kernel
theorem dX11_order_84 : decode cX11_order 84 = .ok (.aload_n 0, 1) := by decide +kernel
theorem dX11_order_85 : decode cX11_order 85 = .ok (.getfield 96, 3) := by decide +kernel
theorem dX11_order_88 : decode cX11_order 88 = .ok (.getfield 351, 3) := by decide +kernel
theorem dX11_order_91 : decode cX11_order 91 = .ok (.ireturn, 1) := by decide +kernel
theorem dX11_order_92 : decode cX11_order 92 = .ok (.new 186, 3) := by decide +kernel
theorem dX11_order_95 : decode cX11_order 95 = .ok (.dup, 1) := by decide +kernel
theorem dX11_order_96 : decode cX11_order 96 = .ok (.ldc 188, 2) := by decide +kernel
theorem dX11_order_98 : decode cX11_order 98 = .ok (.invokespecial 190, 3) := by decide +kernel
theorem dX11_order_101 : decode cX11_order 101 = .ok (.athrow, 1) := by decide +kernel
theorem dX11_falls_0 : decode cX11_falls 0 = .ok (.aload_n 0, 1) := by decide +kernel
theorem dX11_falls_1 : decode cX11_falls 1 = .ok (.iload_n 1, 1) := by decide +kernel
theorem dX11_falls_2 : decode cX11_falls 2 = .ok (.aload_n 0, 1) := by decide +kernel
theorem dX11_falls_3 : decode cX11_falls 3 = .ok (.getfield 65, 3) := by decide +kernel
theorem dX11_falls_6 : decode cX11_falls 6 = .ok (.invokevirtual 292, 3) := by decide +kernel
theorem dX11_falls_9 : decode cX11_falls 9 = .ok (.astore_n 3, 1) := by decide +kernel
theorem dX11_falls_10 : decode cX11_falls 10 = .ok (.iconst 0, 1) := by decide +kernel
theorem dX11_falls_11 : decode cX11_falls 11 = .ok (.istore 4, 2) := by decide +kernel
theorem dX11_falls_13 : decode cX11_falls 13 = .ok (.iconst 0, 1) := by decide +kernel
theorem dX11_falls_14 : decode cX11_falls 14 = .ok (.istore 5, 2) := by decide +kernel
theorem dX11_falls_16 : decode cX11_falls 16 = .ok (.iload 5, 2) := by decide +kernel
theorem dX11_falls_18 : decode cX11_falls 18 = .ok (.iconst 1, 1) := by decide +kernel
theorem dX11_falls_19 : decode cX11_falls 19 = .ok (.iadd, 1) := by decide +kernel
theorem dX11_falls_20 : decode cX11_falls 20 = .ok (.aload_n 3, 1) := by decide +kernel
theorem dX11_falls_21 : decode cX11_falls 21 = .ok (.getfield 164, 3) := by decide +kernel
theorem dX11_falls_24 : decode cX11_falls 24 = .ok (.if_icmp .ge 34, 3) := by decide +kernel
theorem dX11_falls_27 : decode cX11_falls 27 = .ok (.aload_n 0, 1) := by decide +kernel
theorem dX11_falls_28 : decode cX11_falls 28 = .ok (.getfield 65, 3) := by decide +kernel
theorem dX11_falls_31 : decode cX11_falls 31 = .ok (.aload_n 3, 1) := by decide +kernel
theorem dX11_falls_32 : decode cX11_falls 32 = .ok (.iload 5, 2) := by decide +kernel
theorem dX11_falls_34 : decode cX11_falls 34 = .ok (.invokevirtual 354, 3) := by decide +kernel
theorem dX11_falls_37 : decode cX11_falls 37 = .ok (.ifCond .eq 15, 3) := by decide +kernel
theorem dX11_falls_40 : decode cX11_falls 40 = .ok (.iload 4, 2) := by decide +kernel
theorem dX11_falls_42 : decode cX11_falls 42 = .ok (.iload_n 2, 1) := by decide +kernel
theorem dX11_falls_43 : decode cX11_falls 43 = .ok (.if_icmp .ne 6, 3) := by decide +kernel
theorem dX11_falls_46 : decode cX11_falls 46 = .ok (.iload 5, 2) := by decide +kernel
theorem dX11_falls_48 : decode cX11_falls 48 = .ok (.ireturn, 1) := by decide +kernel
theorem dX11_falls_49 : decode cX11_falls 49 = .ok (.iinc 4 1, 3) := by decide +kernel
theorem dX11_falls_52 : decode cX11_falls 52 = .ok (.iinc 5 1, 3) := by decide +kernel
theorem dX11_falls_55 : decode cX11_falls 55 = .ok (.goto (-39), 3) := by decide +kernel
theorem dX11_falls_58 : decode cX11_falls 58 = .ok (.iload_n 2, 1) := by decide +kernel
theorem dX11_falls_59 : decode cX11_falls 59 = .ok (.iconst (-1), 1) := by decide +kernel
theorem dX11_falls_60 : decode cX11_falls 60 = .ok (.if_icmp .eq 14, 3) := by decide +kernel
theorem dX11_falls_63 : decode cX11_falls 63 = .ok (.new 186, 3) := by decide +kernel
theorem dX11_falls_66 : decode cX11_falls 66 = .ok (.dup, 1) := by decide +kernel
theorem dX11_falls_67 : decode cX11_falls 67 = .ok (.ldc_w 358, 3) := by decide +kernel
theorem dX11_falls_70 : decode cX11_falls 70 = .ok (.invokespecial 190, 3) := by decide +kernel
theorem dX11_falls_73 : decode cX11_falls 73 = .ok (.athrow, 1) := by decide +kernel
theorem dX11_falls_74 : decode cX11_falls 74 = .ok (.iload 4, 2) := by decide +kernel
theorem dX11_falls_76 : decode cX11_falls 76 = .ok (.ireturn, 1) := by decide +kernel
theorem dX11_blank_0 : decode cX11_blank 0 = .ok (.aload_n 0, 1) := by decide +kernel
theorem dX11_blank_1 : decode cX11_blank 1 = .ok (.getfield 51, 3) := by decide +kernel
theorem dX11_blank_4 : decode cX11_blank 4 = .ok (.iload_n 1, 1) := by decide +kernel
theorem dX11_blank_5 : decode cX11_blank 5 = .ok (.iload_n 2, 1) := by decide +kernel
theorem dX11_blank_6 : decode cX11_blank 6 = .ok (.invokevirtual 360, 3) := by decide +kernel
theorem dX11_blank_9 : decode cX11_blank 9 = .ok (.ifCond .ne 15, 3) := by decide +kernel
theorem dX11_blank_12 : decode cX11_blank 12 = .ok (.aload_n 0, 1) := by decide +kernel
theorem dX11_blank_13 : decode cX11_blank 13 = .ok (.getfield 55, 3) := by decide +kernel
theorem dX11_blank_16 : decode cX11_blank 16 = .ok (.iconst 3, 1) := by decide +kernel
theorem dX11_blank_17 : decode cX11_blank 17 = .ok (.dup2, 1) := by decide +kernel
theorem dX11_blank_18 : decode cX11_blank 18 = .ok (.iaload, 1) := by decide +kernel
theorem dX11_blank_19 : decode cX11_blank 19 = .ok (.iconst 1, 1) := by decide +kernel
theorem dX11_blank_20 : decode cX11_blank 20 = .ok (.iadd, 1) := by decide +kernel
theorem dX11_blank_21 : decode cX11_blank 21 = .ok (.iastore, 1) := by decide +kernel
theorem dX11_blank_22 : decode cX11_blank 22 = .ok (.iconst (-1), 1) := by decide +kernel
theorem dX11_blank_23 : decode cX11_blank 23 = .ok (.ireturn, 1) := by decide +kernel
theorem dX11_blank_24 : decode cX11_blank 24 = .ok (.aload_n 0, 1) := by decide +kernel
theorem dX11_blank_25 : decode cX11_blank 25 = .ok (.getfield 51, 3) := by decide +kernel
theorem dX11_blank_28 : decode cX11_blank 28 = .ok (.getfield 157, 3) := by decide +kernel
theorem dX11_blank_31 : decode cX11_blank 31 = .ok (.ireturn, 1) := by decide +kernel
theorem dX11_clear_0 : decode cX11_clear 0 = .ok (.aload_n 0, 1) := by decide +kernel
theorem dX11_clear_1 : decode cX11_clear 1 = .ok (.getfield 51, 3) := by decide +kernel
theorem dX11_clear_4 : decode cX11_clear 4 = .ok (.getfield 157, 3) := by decide +kernel
theorem dX11_clear_7 : decode cX11_clear 7 = .ok (.istore_n 1, 1) := by decide +kernel
theorem dX11_clear_8 : decode cX11_clear 8 = .ok (.aload_n 0, 1) := by decide +kernel
theorem dX11_clear_9 : decode cX11_clear 9 = .ok (.getfield 51, 3) := by decide +kernel
theorem dX11_clear_12 : decode cX11_clear 12 = .ok (.iconst 0, 1) := by decide +kernel
theorem dX11_clear_13 : decode cX11_clear 13 = .ok (.putfield 157, 3) := by decide +kernel
theorem dX11_clear_16 : decode cX11_clear 16 = .ok (.iload_n 1, 1) := by decide +kernel
theorem dX11_clear_17 : decode cX11_clear 17 = .ok (.ireturn, 1) := by decide +kernel
theorem dX11_turn_0 : decode cX11_turn 0 = .ok (.iload_n 1, 1) := by decide +kernel
theorem dX11_turn_1 : decode cX11_turn 1 = .ok (.ifCond .lt 8, 3) := by decide +kernel
theorem dX11_turn_4 : decode cX11_turn 4 = .ok (.iload_n 1, 1) := by decide +kernel
theorem dX11_turn_5 : decode cX11_turn 5 = .ok (.iconst 1, 1) := by decide +kernel
theorem dX11_turn_6 : decode cX11_turn 6 = .ok (.if_icmp .le 13, 3) := by decide +kernel
theorem dX11_turn_9 : decode cX11_turn 9 = .ok (.new 186, 3) := by decide +kernel
theorem dX11_turn_12 : decode cX11_turn 12 = .ok (.dup, 1) := by decide +kernel
theorem dX11_turn_13 : decode cX11_turn 13 = .ok (.ldc 188, 2) := by decide +kernel
theorem dX11_turn_15 : decode cX11_turn 15 = .ok (.invokespecial 190, 3) := by decide +kernel
theorem dX11_turn_18 : decode cX11_turn 18 = .ok (.athrow, 1) := by decide +kernel
theorem dX11_turn_19 : decode cX11_turn 19 = .ok (.aload_n 0, 1) := by decide +kernel
theorem dX11_turn_20 : decode cX11_turn 20 = .ok (.getfield 51, 3) := by decide +kernel
theorem dX11_turn_23 : decode cX11_turn 23 = .ok (.aload_n 0, 1) := by decide +kernel
theorem dX11_turn_24 : decode cX11_turn 24 = .ok (.getfield 31, 3) := by decide +kernel
theorem dX11_turn_27 : decode cX11_turn 27 = .ok (.getfield 154, 3) := by decide +kernel
theorem dX11_turn_30 : decode cX11_turn 30 = .ok (.invokevirtual 364, 3) := by decide +kernel
theorem dX11_turn_33 : decode cX11_turn 33 = .ok (.ifCond .ne 5, 3) := by decide +kernel
theorem dX11_turn_36 : decode cX11_turn 36 = .ok (.iconst (-1), 1) := by decide +kernel
theorem dX11_turn_37 : decode cX11_turn 37 = .ok (.ireturn, 1) := by decide +kernel
theorem dX11_turn_38 : decode cX11_turn 38 = .ok (.iload_n 1, 1) := by decide +kernel
theorem dX11_turn_39 : decode cX11_turn 39 = .ok (.ifCond .ne 20, 3) := by decide +kernel
theorem dX11_turn_42 : decode cX11_turn 42 = .ok (.aload_n 0, 1) := by decide +kernel
theorem dX11_turn_43 : decode cX11_turn 43 = .ok (.getfield 51, 3) := by decide +kernel
theorem dX11_turn_46 : decode cX11_turn 46 = .ok (.aload_n 0, 1) := by decide +kernel
theorem dX11_turn_47 : decode cX11_turn 47 = .ok (.getfield 31, 3) := by decide +kernel
theorem dX11_turn_50 : decode cX11_turn 50 = .ok (.getfield 154, 3) := by decide +kernel
theorem dX11_turn_53 : decode cX11_turn 53 = .ok (.invokevirtual 367, 3) := by decide +kernel
theorem dX11_turn_56 : decode cX11_turn 56 = .ok (.goto 17, 3) := by decide +kernel
theorem dX11_turn_59 : decode cX11_turn 59 = .ok (.aload_n 0, 1) := by decide +kernel
theorem dX11_turn_60 : decode cX11_turn 60 = .ok (.getfield 51, 3) := by decide +kernel
theorem dX11_turn_63 : decode cX11_turn 63 = .ok (.aload_n 0, 1) := by decide +kernel
theorem dX11_turn_64 : decode cX11_turn 64 = .ok (.getfield 31, 3) := by decide +kernel
theorem dX11_turn_67 : decode cX11_turn 67 = .ok (.getfield 154, 3) := by decide +kernel
theorem dX11_turn_70 : decode cX11_turn 70 = .ok (.invokevirtual 370, 3) := by decide +kernel
theorem dX11_turn_73 : decode cX11_turn 73 = .ok (.ireturn, 1) := by decide +kernel
theorem dX11_town_0 : decode cX11_town 0 = .ok (.iload_n 1, 1) := by decide +kernel
theorem dX11_town_1 : decode cX11_town 1 = .ok (.invokestatic 215, 3) := by decide +kernel
theorem dX11_town_4 : decode cX11_town 4 = .ok (.iconst 0, 1) := by decide +kernel
theorem dX11_town_5 : decode cX11_town 5 = .ok (.istore_n 2, 1) := by decide +kernel
theorem dX11_town_6 : decode cX11_town 6 = .ok (.iconst 0, 1) := by decide +kernel
theorem dX11_town_7 : decode cX11_town 7 = .ok (.istore_n 3, 1) := by decide +kernel
theorem dX11_town_8 : decode cX11_town 8 = .ok (.iload_n 3, 1) := by decide +kernel
theorem dX11_town_9 : decode cX11_town 9 = .ok (.bipush 6, 2) := by decide +kernel
theorem dX11_town_11 : decode cX11_town 11 = .ok (.if_icmp .ge 59, 3) := by decide +kernel
theorem dX11_town_14 : decode cX11_town 14 = .ok (.aload_n 0, 1) := by decide +kernel
theorem dX11_town_15 : decode cX11_town 15 = .ok (.getfield 18, 3) := by decide +kernel
theorem dX11_town_18 : decode cX11_town 18 = .ok (.iload_n 3, 1) := by decide +kernel
theorem dX11_town_19 : decode cX11_town 19 = .ok (.aaload, 1) := by decide +kernel
theorem dX11_town_20 : decode cX11_town 20 = .ok (.invokevirtual 176, 3) := by decide +kernel
theorem dX11_town_23 : decode cX11_town 23 = .ok (.ifCond .eq 41, 3) := by decide +kernel
theorem dX11_town_26 : decode cX11_town 26 = .ok (.aload_n 0, 1) := by decide +kernel
theorem dX11_town_27 : decode cX11_town 27 = .ok (.getfield 65, 3) := by decide +kernel
theorem dX11_town_30 : decode cX11_town 30 = .ok (.aload_n 0, 1) := by decide +kernel
theorem dX11_town_31 : decode cX11_town 31 = .ok (.getfield 18, 3) := by decide +kernel
theorem dX11_town_34 : decode cX11_town 34 = .ok (.iload_n 3, 1) := by decide +kernel
theorem dX11_town_35 : decode cX11_town 35 = .ok (.aaload, 1) := by decide +kernel
theorem dX11_town_36 : decode cX11_town 36 = .ok (.aload_n 0, 1) := by decide +kernel
theorem dX11_town_37 : decode cX11_town 37 = .ok (.getfield 18, 3) := by decide +kernel
theorem dX11_town_40 : decode cX11_town 40 = .ok (.iload_n 3, 1) := by decide +kernel
theorem dX11_town_41 : decode cX11_town 41 = .ok (.aaload, 1) := by decide +kernel
theorem dX11_town_42 : decode cX11_town 42 = .ok (.getfield 250, 3) := by decide +kernel
theorem dX11_town_45 : decode cX11_town 45 = .ok (.aload_n 0, 1) := by decide +kernel
theorem dX11_town_46 : decode cX11_town 46 = .ok (.getfield 31, 3) := by decide +kernel
theorem dX11_town_49 : decode cX11_town 49 = .ok (.invokevirtual 274, 3) := by decide +kernel
theorem dX11_town_52 : decode cX11_town 52 = .ok (.iload_n 2, 1) := by decide +kernel
theorem dX11_town_53 : decode cX11_town 53 = .ok (.aload_n 0, 1) := by decide +kernel
theorem dX11_town_54 : decode cX11_town 54 = .ok (.getfield 65, 3) := by decide +kernel
theorem dX11_town_57 : decode cX11_town 57 = .ok (.getfield 300, 3) := by decide +kernel
theorem dX11_town_60 : decode cX11_town 60 = .ok (.iload_n 1, 1) := by decide +kernel
theorem dX11_town_61 : decode cX11_town 61 = .ok (.iaload, 1) := by decide +kernel
theorem dX11_town_62 : decode cX11_town 62 = .ok (.iadd, 1) := by decide +kernel
theorem dX11_town_63 : decode cX11_town 63 = .ok (.istore_n 2, 1) := by decide +kernel
theorem dX11_town_64 : decode cX11_town 64 = .ok (.iinc 3 1, 3) := by decide +kernel
theorem dX11_town_67 : decode cX11_town 67 = .ok (.goto (-59), 3) := by decide +kernel
theorem dX11_town_70 : decode cX11_town 70 = .ok (.iload_n 2, 1) := by decide +kernel
theorem dX11_town_71 : decode cX11_town 71 = .ok (.ireturn, 1) := by decide +kernel
theorem dX11_alike_0 : decode cX11_alike 0 = .ok (.aload_n 0, 1) := by decide +kernel
theorem dX11_alike_1 : decode cX11_alike 1 = .ok (.iload_n 1, 1) := by decide +kernel
theorem dX11_alike_2 : decode cX11_alike 2 = .ok (.aload_n 0, 1) := by decide +kernel
theorem dX11_alike_3 : decode cX11_alike 3 = .ok (.getfield 65, 3) := by decide +kernel
theorem dX11_alike_6 : decode cX11_alike 6 = .ok (.invokevirtual 292, 3) := by decide +kernel
theorem dX11_alike_9 : decode cX11_alike 9 = .ok (.pop, 1) := by decide +kernel
theorem dX11_alike_10 : decode cX11_alike 10 = .ok (.aload_n 0, 1) := by decide +kernel
theorem dX11_alike_11 : decode cX11_alike 11 = .ok (.iload_n 2, 1) := by decide +kernel
theorem dX11_alike_12 : decode cX11_alike 12 = .ok (.aload_n 0, 1) := by decide +kernel
theorem dX11_alike_13 : decode cX11_alike 13 = .ok (.getfield 69, 3) := by decide +kernel
theorem dX11_alike_16 : decode cX11_alike 16 = .ok (.invokevirtual 292, 3) := by decide +kernel
theorem dX11_alike_19 : decode cX11_alike 19 = .ok (.pop, 1) := by decide +kernel
theorem dX11_alike_20 : decode cX11_alike 20 = .ok (.aload_n 0, 1) := by decide +kernel
theorem dX11_alike_21 : decode cX11_alike 21 = .ok (.getfield 65, 3) := by decide +kernel
theorem dX11_alike_24 : decode cX11_alike 24 = .ok (.aload_n 0, 1) := by decide +kernel
theorem dX11_alike_25 : decode cX11_alike 25 = .ok (.getfield 69, 3) := by decide +kernel
theorem dX11_alike_28 : decode cX11_alike 28 = .ok (.invokevirtual 373, 3) := by decide +kernel
theorem dX11_alike_31 : decode cX11_alike 31 = .ok (.ireturn, 1) := by decide +kernel
theorem dX11_nearest_0 : decode cX11_nearest 0 = .ok (.aload_n 0, 1) := by decide +kernel
theorem dX11_nearest_1 : decode cX11_nearest 1 = .ok (.iload_n 1, 1) := by decide +kernel
theorem dX11_nearest_2 : decode cX11_nearest 2 = .ok (.aload_n 0, 1) := by decide +kernel
theorem dX11_nearest_3 : decode cX11_nearest 3 = .ok (.getfield 65, 3) := by decide +kernel
theorem dX11_nearest_6 : decode cX11_nearest 6 = .ok (.invokevirtual 292, 3) := by decide +kernel
theorem dX11_nearest_9 : decode cX11_nearest 9 = .ok (.pop, 1) := by decide +kernel
theorem dX11_nearest_10 : decode cX11_nearest 10 = .ok (.iconst (-1), 1) := by decide +kernel
theorem dX11_nearest_11 : decode cX11_nearest 11 = .ok (.istore_n 2, 1) := by decide +kernel
theorem dX11_nearest_12 : decode cX11_nearest 12 = .ok (.iconst 0, 1) := by decide +kernel
theorem dX11_nearest_13 : decode cX11_nearest 13 = .ok (.istore_n 3, 1) := by decide +kernel
theorem dX11_nearest_14 : decode cX11_nearest 14 = .ok (.iconst 0, 1) := by decide +kernel
theorem dX11_nearest_15 : decode cX11_nearest 15 = .ok (.istore 4, 2) := by decide +kernel
theorem dX11_nearest_17 : decode cX11_nearest 17 = .ok (.iload 4, 2) := by decide +kernel
theorem dX11_nearest_19 : decode cX11_nearest 19 = .ok (.bipush 6, 2) := by decide +kernel
theorem dX11_nearest_21 : decode cX11_nearest 21 = .ok (.if_icmp .ge 86, 3) := by decide +kernel
theorem dX11_nearest_24 : decode cX11_nearest 24 = .ok (.iload 4, 2) := by decide +kernel
theorem dX11_nearest_26 : decode cX11_nearest 26 = .ok (.iload_n 1, 1) := by decide +kernel
theorem dX11_nearest_27 : decode cX11_nearest 27 = .ok (.if_icmp .eq 74, 3) := by decide +kernel
theorem dX11_nearest_30 : decode cX11_nearest 30 = .ok (.aload_n 0, 1) := by decide +kernel
theorem dX11_nearest_31 : decode cX11_nearest 31 = .ok (.getfield 18, 3) := by decide +kernel
theorem dX11_nearest_34 : decode cX11_nearest 34 = .ok (.iload 4, 2) := by decide +kernel
theorem dX11_nearest_36 : decode cX11_nearest 36 = .ok (.aaload, 1) := by decide +kernel
theorem dX11_nearest_37 : decode cX11_nearest 37 = .ok (.invokevirtual 176, 3) := by decide +kernel
