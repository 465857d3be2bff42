theorem dX4_meaningOf_33 : decode cX4_meaningOf 33 = .ok (.iaload, 1) := by decide +kernel
theorem dX4_meaningOf_34 : decode cX4_meaningOf 34 = .ok (.ifCond .le 24, 3) := by decide +kernel
theorem dX4_meaningOf_37 : decode cX4_meaningOf 37 = .ok (.aload_n 0, 1) := by decide +kernel
theorem dX4_meaningOf_38 : decode cX4_meaningOf 38 = .ok (.getfield 35, 3) := by decide +kernel
theorem dX4_meaningOf_41 : decode cX4_meaningOf 41 = .ok (.iload_n 1, 1) := by decide +kernel
theorem dX4_meaningOf_42 : decode cX4_meaningOf 42 = .ok (.iload 5, 2) := by decide +kernel
theorem dX4_meaningOf_44 : decode cX4_meaningOf 44 = .ok (.iload 4, 2) := by decide +kernel
theorem dX4_meaningOf_46 : decode cX4_meaningOf 46 = .ok (.invokestatic 109, 3) := by decide +kernel
theorem dX4_meaningOf_49 : decode cX4_meaningOf 49 = .ok (.iaload, 1) := by decide +kernel
theorem dX4_meaningOf_50 : decode cX4_meaningOf 50 = .ok (.iload_n 3, 1) := by decide +kernel
theorem dX4_meaningOf_51 : decode cX4_meaningOf 51 = .ok (.if_icmp .ne 7, 3) := by decide +kernel
theorem dX4_meaningOf_54 : decode cX4_meaningOf 54 = .ok (.iconst 1, 1) := by decide +kernel
theorem dX4_meaningOf_55 : decode cX4_meaningOf 55 = .ok (.goto 4, 3) := by decide +kernel
theorem dX4_meaningOf_58 : decode cX4_meaningOf 58 = .ok (.iconst 0, 1) := by decide +kernel
theorem dX4_meaningOf_59 : decode cX4_meaningOf 59 = .ok (.istore 6, 2) := by decide +kernel
theorem dX4_meaningOf_61 : decode cX4_meaningOf 61 = .ok (.iload 6, 2) := by decide +kernel
theorem dX4_meaningOf_63 : decode cX4_meaningOf 63 = .ok (.ifCond .eq 21, 3) := by decide +kernel
theorem dX4_meaningOf_66 : decode cX4_meaningOf 66 = .ok (.aload_n 0, 1) := by decide +kernel
theorem dX4_meaningOf_67 : decode cX4_meaningOf 67 = .ok (.iload_n 1, 1) := by decide +kernel
theorem dX4_meaningOf_68 : decode cX4_meaningOf 68 = .ok (.iconst 2, 1) := by decide +kernel
theorem dX4_meaningOf_69 : decode cX4_meaningOf 69 = .ok (.invokevirtual 120, 3) := by decide +kernel
theorem dX4_meaningOf_72 : decode cX4_meaningOf 72 = .ok (.ifCond .eq 9, 3) := by decide +kernel
theorem dX4_meaningOf_75 : decode cX4_meaningOf 75 = .ok (.iload 5, 2) := by decide +kernel
theorem dX4_meaningOf_77 : decode cX4_meaningOf 77 = .ok (.iload_n 2, 1) := by decide +kernel
theorem dX4_meaningOf_78 : decode cX4_meaningOf 78 = .ok (.if_icmp .ne 6, 3) := by decide +kernel
theorem dX4_meaningOf_81 : decode cX4_meaningOf 81 = .ok (.iload 4, 2) := by decide +kernel
theorem dX4_meaningOf_83 : decode cX4_meaningOf 83 = .ok (.ireturn, 1) := by decide +kernel
theorem dX4_meaningOf_84 : decode cX4_meaningOf 84 = .ok (.iinc 5 1, 3) := by decide +kernel
theorem dX4_meaningOf_87 : decode cX4_meaningOf 87 = .ok (.goto (-75), 3) := by decide +kernel
theorem dX4_meaningOf_90 : decode cX4_meaningOf 90 = .ok (.iinc 4 1, 3) := by decide +kernel
theorem dX4_meaningOf_93 : decode cX4_meaningOf 93 = .ok (.goto (-90), 3) := by decide +kernel
theorem dX4_meaningOf_96 : decode cX4_meaningOf 96 = .ok (.bipush (-9), 2) := by decide +kernel
theorem dX4_meaningOf_98 : decode cX4_meaningOf 98 = .ok (.ireturn, 1) := by decide +kernel
theorem dX4_meaning_0 : decode cX4_meaning 0 = .ok (.aload_n 0, 1) := by decide +kernel
theorem dX4_meaning_1 : decode cX4_meaning 1 = .ok (.iload_n 1, 1) := by decide +kernel
theorem dX4_meaning_2 : decode cX4_meaning 2 = .ok (.iload_n 2, 1) := by decide +kernel
theorem dX4_meaning_3 : decode cX4_meaning 3 = .ok (.invokevirtual 168, 3) := by decide +kernel
theorem dX4_meaning_6 : decode cX4_meaning 6 = .ok (.ifCond .ne 5, 3) := by decide +kernel
theorem dX4_meaning_9 : decode cX4_meaning 9 = .ok (.iconst (-1), 1) := by decide +kernel
theorem dX4_meaning_10 : decode cX4_meaning 10 = .ok (.ireturn, 1) := by decide +kernel
theorem dX4_meaning_11 : decode cX4_meaning 11 = .ok (.iload_n 3, 1) := by decide +kernel
theorem dX4_meaning_12 : decode cX4_meaning 12 = .ok (.iconst 0, 1) := by decide +kernel
theorem dX4_meaning_13 : decode cX4_meaning 13 = .ok (.bipush 99, 2) := by decide +kernel
theorem dX4_meaning_15 : decode cX4_meaning 15 = .ok (.invokestatic 80, 3) := by decide +kernel
theorem dX4_meaning_18 : decode cX4_meaning 18 = .ok (.ifCond .eq 13, 3) := by decide +kernel
theorem dX4_meaning_21 : decode cX4_meaning 21 = .ok (.aload_n 0, 1) := by decide +kernel
theorem dX4_meaning_22 : decode cX4_meaning 22 = .ok (.iload_n 1, 1) := by decide +kernel
theorem dX4_meaning_23 : decode cX4_meaning 23 = .ok (.iload_n 2, 1) := by decide +kernel
theorem dX4_meaning_24 : decode cX4_meaning 24 = .ok (.iload_n 3, 1) := by decide +kernel
theorem dX4_meaning_25 : decode cX4_meaning 25 = .ok (.invokevirtual 177, 3) := by decide +kernel
theorem dX4_meaning_28 : decode cX4_meaning 28 = .ok (.goto 5, 3) := by decide +kernel
theorem dX4_meaning_31 : decode cX4_meaning 31 = .ok (.bipush (-2), 2) := by decide +kernel
theorem dX4_meaning_33 : decode cX4_meaning 33 = .ok (.ireturn, 1) := by decide +kernel
theorem dX4_putsAside_0 : decode cX4_putsAside 0 = .ok (.iconst 0, 1) := by decide +kernel
theorem dX4_putsAside_1 : decode cX4_putsAside 1 = .ok (.istore_n 2, 1) := by decide +kernel
theorem dX4_putsAside_2 : decode cX4_putsAside 2 = .ok (.iload_n 2, 1) := by decide +kernel
theorem dX4_putsAside_3 : decode cX4_putsAside 3 = .ok (.sipush 336, 3) := by decide +kernel
theorem dX4_putsAside_6 : decode cX4_putsAside 6 = .ok (.if_icmp .ge 136, 3) := by decide +kernel
theorem dX4_putsAside_9 : decode cX4_putsAside 9 = .ok (.iload_n 1, 1) := by decide +kernel
theorem dX4_putsAside_10 : decode cX4_putsAside 10 = .ok (.ifCond .eq 66, 3) := by decide +kernel
theorem dX4_putsAside_13 : decode cX4_putsAside 13 = .ok (.aload_n 0, 1) := by decide +kernel
theorem dX4_putsAside_14 : decode cX4_putsAside 14 = .ok (.getfield 35, 3) := by decide +kernel
theorem dX4_putsAside_17 : decode cX4_putsAside 17 = .ok (.iload_n 2, 1) := by decide +kernel
theorem dX4_putsAside_18 : decode cX4_putsAside 18 = .ok (.aload_n 0, 1) := by decide +kernel
theorem dX4_putsAside_19 : decode cX4_putsAside 19 = .ok (.getfield 65, 3) := by decide +kernel
theorem dX4_putsAside_22 : decode cX4_putsAside 22 = .ok (.iload_n 2, 1) := by decide +kernel
theorem dX4_putsAside_23 : decode cX4_putsAside 23 = .ok (.iaload, 1) := by decide +kernel
theorem dX4_putsAside_24 : decode cX4_putsAside 24 = .ok (.iastore, 1) := by decide +kernel
theorem dX4_putsAside_25 : decode cX4_putsAside 25 = .ok (.aload_n 0, 1) := by decide +kernel
theorem dX4_putsAside_26 : decode cX4_putsAside 26 = .ok (.getfield 38, 3) := by decide +kernel
theorem dX4_putsAside_29 : decode cX4_putsAside 29 = .ok (.iload_n 2, 1) := by decide +kernel
theorem dX4_putsAside_30 : decode cX4_putsAside 30 = .ok (.aload_n 0, 1) := by decide +kernel
theorem dX4_putsAside_31 : decode cX4_putsAside 31 = .ok (.getfield 65, 3) := by decide +kernel
theorem dX4_putsAside_34 : decode cX4_putsAside 34 = .ok (.sipush 336, 3) := by decide +kernel
theorem dX4_putsAside_37 : decode cX4_putsAside 37 = .ok (.iload_n 2, 1) := by decide +kernel
theorem dX4_putsAside_38 : decode cX4_putsAside 38 = .ok (.iadd, 1) := by decide +kernel
theorem dX4_putsAside_39 : decode cX4_putsAside 39 = .ok (.iaload, 1) := by decide +kernel
theorem dX4_putsAside_40 : decode cX4_putsAside 40 = .ok (.iastore, 1) := by decide +kernel
theorem dX4_putsAside_41 : decode cX4_putsAside 41 = .ok (.aload_n 0, 1) := by decide +kernel
theorem dX4_putsAside_42 : decode cX4_putsAside 42 = .ok (.getfield 41, 3) := by decide +kernel
theorem dX4_putsAside_45 : decode cX4_putsAside 45 = .ok (.iload_n 2, 1) := by decide +kernel
theorem dX4_putsAside_46 : decode cX4_putsAside 46 = .ok (.aload_n 0, 1) := by decide +kernel
theorem dX4_putsAside_47 : decode cX4_putsAside 47 = .ok (.getfield 65, 3) := by decide +kernel
theorem dX4_putsAside_50 : decode cX4_putsAside 50 = .ok (.sipush 672, 3) := by decide +kernel
theorem dX4_putsAside_53 : decode cX4_putsAside 53 = .ok (.iload_n 2, 1) := by decide +kernel
theorem dX4_putsAside_54 : decode cX4_putsAside 54 = .ok (.iadd, 1) := by decide +kernel
theorem dX4_putsAside_55 : decode cX4_putsAside 55 = .ok (.iaload, 1) := by decide +kernel
theorem dX4_putsAside_56 : decode cX4_putsAside 56 = .ok (.iastore, 1) := by decide +kernel
theorem dX4_putsAside_57 : decode cX4_putsAside 57 = .ok (.aload_n 0, 1) := by decide +kernel
theorem dX4_putsAside_58 : decode cX4_putsAside 58 = .ok (.getfield 44, 3) := by decide +kernel
theorem dX4_putsAside_61 : decode cX4_putsAside 61 = .ok (.iload_n 2, 1) := by decide +kernel
theorem dX4_putsAside_62 : decode cX4_putsAside 62 = .ok (.aload_n 0, 1) := by decide +kernel
theorem dX4_putsAside_63 : decode cX4_putsAside 63 = .ok (.getfield 65, 3) := by decide +kernel
theorem dX4_putsAside_66 : decode cX4_putsAside 66 = .ok (.sipush 1008, 3) := by decide +kernel
theorem dX4_putsAside_69 : decode cX4_putsAside 69 = .ok (.iload_n 2, 1) := by decide +kernel
theorem dX4_putsAside_70 : decode cX4_putsAside 70 = .ok (.iadd, 1) := by decide +kernel
theorem dX4_putsAside_71 : decode cX4_putsAside 71 = .ok (.iaload, 1) := by decide +kernel
theorem dX4_putsAside_72 : decode cX4_putsAside 72 = .ok (.iastore, 1) := by decide +kernel
theorem dX4_putsAside_73 : decode cX4_putsAside 73 = .ok (.goto 63, 3) := by decide +kernel
theorem dX4_putsAside_76 : decode cX4_putsAside 76 = .ok (.aload_n 0, 1) := by decide +kernel
theorem dX4_putsAside_77 : decode cX4_putsAside 77 = .ok (.getfield 65, 3) := by decide +kernel
theorem dX4_putsAside_80 : decode cX4_putsAside 80 = .ok (.iload_n 2, 1) := by decide +kernel
theorem dX4_putsAside_81 : decode cX4_putsAside 81 = .ok (.aload_n 0, 1) := by decide +kernel
theorem dX4_putsAside_82 : decode cX4_putsAside 82 = .ok (.getfield 35, 3) := by decide +kernel
theorem dX4_putsAside_85 : decode cX4_putsAside 85 = .ok (.iload_n 2, 1) := by decide +kernel
theorem dX4_putsAside_86 : decode cX4_putsAside 86 = .ok (.iaload, 1) := by decide +kernel
theorem dX4_putsAside_87 : decode cX4_putsAside 87 = .ok (.iastore, 1) := by decide +kernel
theorem dX4_putsAside_88 : decode cX4_putsAside 88 = .ok (.aload_n 0, 1) := by decide +kernel
theorem dX4_putsAside_89 : decode cX4_putsAside 89 = .ok (.getfield 65, 3) := by decide +kernel
theorem dX4_putsAside_92 : decode cX4_putsAside 92 = .ok (.sipush 336, 3) := by decide +kernel
theorem dX4_putsAside_95 : decode cX4_putsAside 95 = .ok (.iload_n 2, 1) := by decide +kernel
theorem dX4_putsAside_96 : decode cX4_putsAside 96 = .ok (.iadd, 1) := by decide +kernel
theorem dX4_putsAside_97 : decode cX4_putsAside 97 = .ok (.aload_n 0, 1) := by decide +kernel
theorem dX4_putsAside_98 : decode cX4_putsAside 98 = .ok (.getfield 38, 3) := by decide +kernel
theorem dX4_putsAside_101 : decode cX4_putsAside 101 = .ok (.iload_n 2, 1) := by decide +kernel
theorem dX4_putsAside_102 : decode cX4_putsAside 102 = .ok (.iaload, 1) := by decide +kernel
theorem dX4_putsAside_103 : decode cX4_putsAside 103 = .ok (.iastore, 1) := by decide +kernel
theorem dX4_putsAside_104 : decode cX4_putsAside 104 = .ok (.aload_n 0, 1) := by decide +kernel
theorem dX4_putsAside_105 : decode cX4_putsAside 105 = .ok (.getfield 65, 3) := by decide +kernel
theorem dX4_putsAside_108 : decode cX4_putsAside 108 = .ok (.sipush 672, 3) := by decide +kernel
theorem dX4_putsAside_111 : decode cX4_putsAside 111 = .ok (.iload_n 2, 1) := by decide +kernel
theorem dX4_putsAside_112 : decode cX4_putsAside 112 = .ok (.iadd, 1) := by decide +kernel
theorem dX4_putsAside_113 : decode cX4_putsAside 113 = .ok (.aload_n 0, 1) := by decide +kernel
theorem dX4_putsAside_114 : decode cX4_putsAside 114 = .ok (.getfield 41, 3) := by decide +kernel
theorem dX4_putsAside_117 : decode cX4_putsAside 117 = .ok (.iload_n 2, 1) := by decide +kernel
theorem dX4_putsAside_118 : decode cX4_putsAside 118 = .ok (.iaload, 1) := by decide +kernel
theorem dX4_putsAside_119 : decode cX4_putsAside 119 = .ok (.iastore, 1) := by decide +kernel
theorem dX4_putsAside_120 : decode cX4_putsAside 120 = .ok (.aload_n 0, 1) := by decide +kernel
theorem dX4_putsAside_121 : decode cX4_putsAside 121 = .ok (.getfield 65, 3) := by decide +kernel
theorem dX4_putsAside_124 : decode cX4_putsAside 124 = .ok (.sipush 1008, 3) := by decide +kernel
theorem dX4_putsAside_127 : decode cX4_putsAside 127 = .ok (.iload_n 2, 1) := by decide +kernel
theorem dX4_putsAside_128 : decode cX4_putsAside 128 = .ok (.iadd, 1) := by decide +kernel
theorem dX4_putsAside_129 : decode cX4_putsAside 129 = .ok (.aload_n 0, 1) := by decide +kernel
theorem dX4_putsAside_130 : decode cX4_putsAside 130 = .ok (.getfield 44, 3) := by decide +kernel
theorem dX4_putsAside_133 : decode cX4_putsAside 133 = .ok (.iload_n 2, 1) := by decide +kernel
theorem dX4_putsAside_134 : decode cX4_putsAside 134 = .ok (.iaload, 1) := by decide +kernel
theorem dX4_putsAside_135 : decode cX4_putsAside 135 = .ok (.iastore, 1) := by decide +kernel
theorem dX4_putsAside_136 : decode cX4_putsAside 136 = .ok (.iinc 2 1, 3) := by decide +kernel
theorem dX4_putsAside_139 : decode cX4_putsAside 139 = .ok (.goto (-137), 3) := by decide +kernel
theorem dX4_putsAside_142 : decode cX4_putsAside 142 = .ok (.return_, 1) := by decide +kernel
theorem dX4_settles_0 : decode cX4_settles 0 = .ok (.aload_n 0, 1) := by decide +kernel
theorem dX4_settles_1 : decode cX4_settles 1 = .ok (.iconst 0, 1) := by decide +kernel
theorem dX4_settles_2 : decode cX4_settles 2 = .ok (.invokevirtual 180, 3) := by decide +kernel
theorem dX4_settles_5 : decode cX4_settles 5 = .ok (.iconst 0, 1) := by decide +kernel
theorem dX4_settles_6 : decode cX4_settles 6 = .ok (.istore_n 1, 1) := by decide +kernel
theorem dX4_settles_7 : decode cX4_settles 7 = .ok (.iconst 1, 1) := by decide +kernel
theorem dX4_settles_8 : decode cX4_settles 8 = .ok (.istore_n 2, 1) := by decide +kernel
theorem dX4_settles_9 : decode cX4_settles 9 = .ok (.iload_n 2, 1) := by decide +kernel
theorem dX4_settles_10 : decode cX4_settles 10 = .ok (.ifCond .eq 34, 3) := by decide +kernel
theorem dX4_settles_13 : decode cX4_settles 13 = .ok (.iload_n 1, 1) := by decide +kernel
theorem dX4_settles_14 : decode cX4_settles 14 = .ok (.bipush 30, 2) := by decide +kernel
theorem dX4_settles_16 : decode cX4_settles 16 = .ok (.if_icmp .ge 28, 3) := by decide +kernel
theorem dX4_settles_19 : decode cX4_settles 19 = .ok (.aload_n 0, 1) := by decide +kernel
theorem dX4_settles_20 : decode cX4_settles 20 = .ok (.invokevirtual 158, 3) := by decide +kernel
theorem dX4_settles_23 : decode cX4_settles 23 = .ok (.aload_n 0, 1) := by decide +kernel
theorem dX4_settles_24 : decode cX4_settles 24 = .ok (.iconst 1, 1) := by decide +kernel
theorem dX4_settles_25 : decode cX4_settles 25 = .ok (.invokevirtual 164, 3) := by decide +kernel
theorem dX4_settles_28 : decode cX4_settles 28 = .ok (.istore_n 2, 1) := by decide +kernel
theorem dX4_settles_29 : decode cX4_settles 29 = .ok (.iload_n 1, 1) := by decide +kernel
theorem dX4_settles_30 : decode cX4_settles 30 = .ok (.iload_n 2, 1) := by decide +kernel
theorem dX4_settles_31 : decode cX4_settles 31 = .ok (.ifCond .eq 7, 3) := by decide +kernel
theorem dX4_settles_34 : decode cX4_settles 34 = .ok (.iconst 1, 1) := by decide +kernel
theorem dX4_settles_35 : decode cX4_settles 35 = .ok (.goto 4, 3) := by decide +kernel
theorem dX4_settles_38 : decode cX4_settles 38 = .ok (.iconst 0, 1) := by decide +kernel
theorem dX4_settles_39 : decode cX4_settles 39 = .ok (.iadd, 1) := by decide +kernel
theorem dX4_settles_40 : decode cX4_settles 40 = .ok (.istore_n 1, 1) := by decide +kernel
theorem dX4_settles_41 : decode cX4_settles 41 = .ok (.goto (-32), 3) := by decide +kernel
theorem dX4_settles_44 : decode cX4_settles 44 = .ok (.aload_n 0, 1) := by decide +kernel
theorem dX4_settles_45 : decode cX4_settles 45 = .ok (.iconst 1, 1) := by decide +kernel
theorem dX4_settles_46 : decode cX4_settles 46 = .ok (.invokevirtual 180, 3) := by decide +kernel
theorem dX4_settles_49 : decode cX4_settles 49 = .ok (.iload_n 2, 1) := by decide +kernel
theorem dX4_settles_50 : decode cX4_settles 50 = .ok (.ifCond .eq 8, 3) := by decide +kernel
theorem dX4_settles_53 : decode cX4_settles 53 = .ok (.bipush (-9), 2) := by decide +kernel
theorem dX4_settles_55 : decode cX4_settles 55 = .ok (.goto 4, 3) := by decide +kernel
theorem dX4_settles_58 : decode cX4_settles 58 = .ok (.iload_n 1, 1) := by decide +kernel
theorem dX4_settles_59 : decode cX4_settles 59 = .ok (.ireturn, 1) := by decide +kernel
theorem dX4_goes_0 : decode cX4_goes 0 = .ok (.iload_n 1, 1) := by decide +kernel
theorem dX4_goes_1 : decode cX4_goes 1 = .ok (.istore_n 3, 1) := by decide +kernel
theorem dX4_goes_2 : decode cX4_goes 2 = .ok (.iconst 0, 1) := by decide +kernel
theorem dX4_goes_3 : decode cX4_goes 3 = .ok (.istore 4, 2) := by decide +kernel
theorem dX4_goes_5 : decode cX4_goes 5 = .ok (.bipush (-9), 2) := by decide +kernel
theorem dX4_goes_7 : decode cX4_goes 7 = .ok (.istore 5, 2) := by decide +kernel
theorem dX4_goes_9 : decode cX4_goes 9 = .ok (.aload_n 0, 1) := by decide +kernel
theorem dX4_goes_10 : decode cX4_goes 10 = .ok (.iconst 0, 1) := by decide +kernel
theorem dX4_goes_11 : decode cX4_goes 11 = .ok (.putfield 184, 3) := by decide +kernel
theorem dX4_goes_14 : decode cX4_goes 14 = .ok (.aload_n 0, 1) := by decide +kernel
theorem dX4_goes_15 : decode cX4_goes 15 = .ok (.getfield 68, 3) := by decide +kernel
theorem dX4_goes_18 : decode cX4_goes 18 = .ok (.aload_n 0, 1) := by decide +kernel
theorem dX4_goes_19 : decode cX4_goes 19 = .ok (.getfield 184, 3) := by decide +kernel
theorem dX4_goes_22 : decode cX4_goes 22 = .ok (.iload_n 3, 1) := by decide +kernel
theorem dX4_goes_23 : decode cX4_goes 23 = .ok (.iastore, 1) := by decide +kernel
theorem dX4_goes_24 : decode cX4_goes 24 = .ok (.aload_n 0, 1) := by decide +kernel
theorem dX4_goes_25 : decode cX4_goes 25 = .ok (.getfield 71, 3) := by decide +kernel
theorem dX4_goes_28 : decode cX4_goes 28 = .ok (.aload_n 0, 1) := by decide +kernel
theorem dX4_goes_29 : decode cX4_goes 29 = .ok (.getfield 184, 3) := by decide +kernel
theorem dX4_goes_32 : decode cX4_goes 32 = .ok (.iload 4, 2) := by decide +kernel
theorem dX4_goes_34 : decode cX4_goes 34 = .ok (.iastore, 1) := by decide +kernel
theorem dX4_goes_35 : decode cX4_goes 35 = .ok (.aload_n 0, 1) := by decide +kernel
theorem dX4_goes_36 : decode cX4_goes 36 = .ok (.dup, 1) := by decide +kernel
theorem dX4_goes_37 : decode cX4_goes 37 = .ok (.getfield 184, 3) := by decide +kernel
theorem dX4_goes_40 : decode cX4_goes 40 = .ok (.iconst 1, 1) := by decide +kernel
theorem dX4_goes_41 : decode cX4_goes 41 = .ok (.iadd, 1) := by decide +kernel
theorem dX4_goes_42 : decode cX4_goes 42 = .ok (.putfield 184, 3) := by decide +kernel
theorem dX4_goes_45 : decode cX4_goes 45 = .ok (.iload 4, 2) := by decide +kernel
theorem dX4_goes_47 : decode cX4_goes 47 = .ok (.ifCond .ne 7, 3) := by decide +kernel
theorem dX4_goes_50 : decode cX4_goes 50 = .ok (.iload_n 2, 1) := by decide +kernel
theorem dX4_goes_51 : decode cX4_goes 51 = .ok (.goto 12, 3) := by decide +kernel
theorem dX4_goes_54 : decode cX4_goes 54 = .ok (.aload_n 0, 1) := by decide +kernel
theorem dX4_goes_55 : decode cX4_goes 55 = .ok (.iload_n 3, 1) := by decide +kernel
theorem dX4_goes_56 : decode cX4_goes 56 = .ok (.iload 5, 2) := by decide +kernel
theorem dX4_goes_58 : decode cX4_goes 58 = .ok (.iload 4, 2) := by decide +kernel
theorem dX4_goes_60 : decode cX4_goes 60 = .ok (.invokevirtual 177, 3) := by decide +kernel
theorem dX4_goes_63 : decode cX4_goes 63 = .ok (.istore 6, 2) := by decide +kernel
theorem dX4_goes_65 : decode cX4_goes 65 = .ok (.iload 6, 2) := by decide +kernel
theorem dX4_goes_67 : decode cX4_goes 67 = .ok (.bipush (-9), 2) := by decide +kernel
theorem dX4_goes_69 : decode cX4_goes 69 = .ok (.if_icmp .ne 5, 3) := by decide +kernel
theorem dX4_goes_72 : decode cX4_goes 72 = .ok (.iconst 2, 1) := by decide +kernel
theorem dX4_goes_73 : decode cX4_goes 73 = .ok (.ireturn, 1) := by decide +kernel
theorem dX4_goes_74 : decode cX4_goes 74 = .ok (.aload_n 0, 1) := by decide +kernel
theorem dX4_goes_75 : decode cX4_goes 75 = .ok (.getfield 23, 3) := by decide +kernel
theorem dX4_goes_78 : decode cX4_goes 78 = .ok (.iload 6, 2) := by decide +kernel
theorem dX4_goes_80 : decode cX4_goes 80 = .ok (.iaload, 1) := by decide +kernel
theorem dX4_goes_81 : decode cX4_goes 81 = .ok (.iload_n 3, 1) := by decide +kernel
theorem dX4_goes_82 : decode cX4_goes 82 = .ok (.if_icmp .ne 5, 3) := by decide +kernel
theorem dX4_goes_85 : decode cX4_goes 85 = .ok (.iconst 0, 1) := by decide +kernel
theorem dX4_goes_86 : decode cX4_goes 86 = .ok (.ireturn, 1) := by decide +kernel
theorem dX4_goes_87 : decode cX4_goes 87 = .ok (.aload_n 0, 1) := by decide +kernel
theorem dX4_goes_88 : decode cX4_goes 88 = .ok (.iload_n 3, 1) := by decide +kernel
theorem dX4_goes_89 : decode cX4_goes 89 = .ok (.iload 6, 2) := by decide +kernel
theorem dX4_goes_91 : decode cX4_goes 91 = .ok (.invokevirtual 106, 3) := by decide +kernel
theorem dX4_goes_94 : decode cX4_goes 94 = .ok (.istore 7, 2) := by decide +kernel
theorem dX4_goes_96 : decode cX4_goes 96 = .ok (.iload 7, 2) := by decide +kernel
theorem dX4_goes_98 : decode cX4_goes 98 = .ok (.bipush (-9), 2) := by decide +kernel
theorem dX4_goes_100 : decode cX4_goes 100 = .ok (.if_icmp .ne 5, 3) := by decide +kernel
theorem dX4_goes_103 : decode cX4_goes 103 = .ok (.iconst 1, 1) := by decide +kernel
theorem dX4_goes_104 : decode cX4_goes 104 = .ok (.ireturn, 1) := by decide +kernel
theorem dX4_goes_105 : decode cX4_goes 105 = .ok (.aload_n 0, 1) := by decide +kernel
theorem dX4_goes_106 : decode cX4_goes 106 = .ok (.iload_n 3, 1) := by decide +kernel
theorem dX4_goes_107 : decode cX4_goes 107 = .ok (.iload 6, 2) := by decide +kernel
theorem dX4_goes_109 : decode cX4_goes 109 = .ok (.invokevirtual 174, 3) := by decide +kernel
theorem dX4_goes_112 : decode cX4_goes 112 = .ok (.istore 8, 2) := by decide +kernel
theorem dX4_goes_114 : decode cX4_goes 114 = .ok (.iload 8, 2) := by decide +kernel
theorem dX4_goes_116 : decode cX4_goes 116 = .ok (.ifCond .ne 10, 3) := by decide +kernel
theorem dX4_goes_119 : decode cX4_goes 119 = .ok (.iload 4, 2) := by decide +kernel
theorem dX4_goes_121 : decode cX4_goes 121 = .ok (.ifCond .le 5, 3) := by decide +kernel
theorem dX4_goes_124 : decode cX4_goes 124 = .ok (.iconst 3, 1) := by decide +kernel
theorem dX4_goes_125 : decode cX4_goes 125 = .ok (.ireturn, 1) := by decide +kernel
theorem dX4_goes_126 : decode cX4_goes 126 = .ok (.aload_n 0, 1) := by decide +kernel
theorem dX4_goes_127 : decode cX4_goes 127 = .ok (.getfield 184, 3) := by decide +kernel
theorem dX4_goes_130 : decode cX4_goes 130 = .ok (.bipush 14, 2) := by decide +kernel
theorem dX4_goes_132 : decode cX4_goes 132 = .ok (.if_icmp .le 5, 3) := by decide +kernel
theorem dX4_goes_135 : decode cX4_goes 135 = .ok (.iconst 4, 1) := by decide +kernel
theorem dX4_goes_136 : decode cX4_goes 136 = .ok (.ireturn, 1) := by decide +kernel
theorem dX4_goes_137 : decode cX4_goes 137 = .ok (.iload 8, 2) := by decide +kernel
theorem dX4_goes_139 : decode cX4_goes 139 = .ok (.iconst 3, 1) := by decide +kernel
theorem dX4_goes_140 : decode cX4_goes 140 = .ok (.if_icmp .ne 7, 3) := by decide +kernel
theorem dX4_goes_143 : decode cX4_goes 143 = .ok (.iconst 0, 1) := by decide +kernel
theorem dX4_goes_144 : decode cX4_goes 144 = .ok (.goto 5, 3) := by decide +kernel
theorem dX4_goes_147 : decode cX4_goes 147 = .ok (.iload 8, 2) := by decide +kernel
theorem dX4_goes_149 : decode cX4_goes 149 = .ok (.istore 4, 2) := by decide +kernel
theorem dX4_goes_151 : decode cX4_goes 151 = .ok (.aload_n 0, 1) := by decide +kernel
theorem dX4_goes_152 : decode cX4_goes 152 = .ok (.iload_n 3, 1) := by decide +kernel
theorem dX4_goes_153 : decode cX4_goes 153 = .ok (.iload 7, 2) := by decide +kernel
theorem dX4_goes_155 : decode cX4_goes 155 = .ok (.invokevirtual 92, 3) := by decide +kernel
theorem dX4_goes_158 : decode cX4_goes 158 = .ok (.istore 5, 2) := by decide +kernel
theorem dX4_goes_160 : decode cX4_goes 160 = .ok (.iload 7, 2) := by decide +kernel
theorem dX4_goes_162 : decode cX4_goes 162 = .ok (.istore_n 3, 1) := by decide +kernel
theorem dX4_goes_163 : decode cX4_goes 163 = .ok (.goto (-149), 3) := by decide +kernel
theorem dX4_letter_0 : decode cX4_letter 0 = .ok (.iload_n 1, 1) := by decide +kernel
theorem dX4_letter_1 : decode cX4_letter 1 = .ok (.invokestatic 88, 3) := by decide +kernel
theorem dX4_letter_4 : decode cX4_letter 4 = .ok (.ifCond .eq 10, 3) := by decide +kernel
theorem dX4_letter_7 : decode cX4_letter 7 = .ok (.iload_n 2, 1) := by decide +kernel
theorem dX4_letter_8 : decode cX4_letter 8 = .ok (.invokestatic 99, 3) := by decide +kernel
theorem dX4_letter_11 : decode cX4_letter 11 = .ok (.ifCond .ne 5, 3) := by decide +kernel
theorem dX4_letter_14 : decode cX4_letter 14 = .ok (.iconst (-1), 1) := by decide +kernel
theorem dX4_letter_15 : decode cX4_letter 15 = .ok (.ireturn, 1) := by decide +kernel
theorem dX4_letter_16 : decode cX4_letter 16 = .ok (.aload_n 0, 1) := by decide +kernel
theorem dX4_letter_17 : decode cX4_letter 17 = .ok (.iload_n 1, 1) := by decide +kernel
theorem dX4_letter_18 : decode cX4_letter 18 = .ok (.iload_n 2, 1) := by decide +kernel
theorem dX4_letter_19 : decode cX4_letter 19 = .ok (.invokevirtual 187, 3) := by decide +kernel
theorem dX4_letter_22 : decode cX4_letter 22 = .ok (.istore_n 3, 1) := by decide +kernel
theorem dX4_letter_23 : decode cX4_letter 23 = .ok (.aload_n 0, 1) := by decide +kernel
theorem dX4_letter_24 : decode cX4_letter 24 = .ok (.aload_n 0, 1) := by decide +kernel
theorem dX4_letter_25 : decode cX4_letter 25 = .ok (.getfield 184, 3) := by decide +kernel
theorem dX4_letter_28 : decode cX4_letter 28 = .ok (.putfield 190, 3) := by decide +kernel
theorem dX4_letter_31 : decode cX4_letter 31 = .ok (.iconst 0, 1) := by decide +kernel
theorem dX4_letter_32 : decode cX4_letter 32 = .ok (.istore 4, 2) := by decide +kernel
theorem dX4_letter_34 : decode cX4_letter 34 = .ok (.iload 4, 2) := by decide +kernel
theorem dX4_letter_36 : decode cX4_letter 36 = .ok (.aload_n 0, 1) := by decide +kernel
theorem dX4_letter_37 : decode cX4_letter 37 = .ok (.getfield 184, 3) := by decide +kernel
theorem dX4_letter_40 : decode cX4_letter 40 = .ok (.if_icmp .ge 37, 3) := by decide +kernel
theorem dX4_letter_43 : decode cX4_letter 43 = .ok (.aload_n 0, 1) := by decide +kernel
theorem dX4_letter_44 : decode cX4_letter 44 = .ok (.getfield 74, 3) := by decide +kernel
theorem dX4_letter_47 : decode cX4_letter 47 = .ok (.iload 4, 2) := by decide +kernel
theorem dX4_letter_49 : decode cX4_letter 49 = .ok (.aload_n 0, 1) := by decide +kernel
theorem dX4_letter_50 : decode cX4_letter 50 = .ok (.getfield 68, 3) := by decide +kernel
theorem dX4_letter_53 : decode cX4_letter 53 = .ok (.iload 4, 2) := by decide +kernel
theorem dX4_letter_55 : decode cX4_letter 55 = .ok (.iaload, 1) := by decide +kernel
theorem dX4_letter_56 : decode cX4_letter 56 = .ok (.iastore, 1) := by decide +kernel
theorem dX4_letter_57 : decode cX4_letter 57 = .ok (.aload_n 0, 1) := by decide +kernel
theorem dX4_letter_58 : decode cX4_letter 58 = .ok (.getfield 77, 3) := by decide +kernel
theorem dX4_letter_61 : decode cX4_letter 61 = .ok (.iload 4, 2) := by decide +kernel
theorem dX4_letter_63 : decode cX4_letter 63 = .ok (.aload_n 0, 1) := by decide +kernel
theorem dX4_letter_64 : decode cX4_letter 64 = .ok (.getfield 71, 3) := by decide +kernel
theorem dX4_letter_67 : decode cX4_letter 67 = .ok (.iload 4, 2) := by decide +kernel
theorem dX4_letter_69 : decode cX4_letter 69 = .ok (.iaload, 1) := by decide +kernel
theorem dX4_letter_70 : decode cX4_letter 70 = .ok (.iastore, 1) := by decide +kernel
theorem dX4_letter_71 : decode cX4_letter 71 = .ok (.iinc 4 1, 3) := by decide +kernel
theorem dX4_letter_74 : decode cX4_letter 74 = .ok (.goto (-40), 3) := by decide +kernel
theorem dX4_letter_77 : decode cX4_letter 77 = .ok (.iload_n 3, 1) := by decide +kernel
theorem dX4_letter_78 : decode cX4_letter 78 = .ok (.ireturn, 1) := by decide +kernel
theorem dX4_trace_0 : decode cX4_trace 0 = .ok (.iload_n 1, 1) := by decide +kernel
theorem dX4_trace_1 : decode cX4_trace 1 = .ok (.iconst 0, 1) := by decide +kernel
theorem dX4_trace_2 : decode cX4_trace 2 = .ok (.bipush 14, 2) := by decide +kernel
theorem dX4_trace_4 : decode cX4_trace 4 = .ok (.invokestatic 80, 3) := by decide +kernel
theorem dX4_trace_7 : decode cX4_trace 7 = .ok (.ifCond .eq 12, 3) := by decide +kernel
theorem dX4_trace_10 : decode cX4_trace 10 = .ok (.iload_n 2, 1) := by decide +kernel
theorem dX4_trace_11 : decode cX4_trace 11 = .ok (.iconst 0, 1) := by decide +kernel
theorem dX4_trace_12 : decode cX4_trace 12 = .ok (.iconst 1, 1) := by decide +kernel
theorem dX4_trace_13 : decode cX4_trace 13 = .ok (.invokestatic 80, 3) := by decide +kernel
theorem dX4_trace_16 : decode cX4_trace 16 = .ok (.ifCond .ne 6, 3) := by decide +kernel
theorem dX4_trace_19 : decode cX4_trace 19 = .ok (.bipush (-2), 2) := by decide +kernel
theorem dX4_trace_21 : decode cX4_trace 21 = .ok (.ireturn, 1) := by decide +kernel
theorem dX4_trace_22 : decode cX4_trace 22 = .ok (.iload_n 1, 1) := by decide +kernel
theorem dX4_trace_23 : decode cX4_trace 23 = .ok (.aload_n 0, 1) := by decide +kernel
theorem dX4_trace_24 : decode cX4_trace 24 = .ok (.getfield 190, 3) := by decide +kernel
theorem dX4_trace_27 : decode cX4_trace 27 = .ok (.if_icmp .lt 6, 3) := by decide +kernel
theorem dX4_trace_30 : decode cX4_trace 30 = .ok (.bipush (-9), 2) := by decide +kernel
theorem dX4_trace_32 : decode cX4_trace 32 = .ok (.ireturn, 1) := by decide +kernel
theorem dX4_trace_33 : decode cX4_trace 33 = .ok (.iload_n 2, 1) := by decide +kernel
theorem dX4_trace_34 : decode cX4_trace 34 = .ok (.ifCond .ne 12, 3) := by decide +kernel
theorem dX4_trace_37 : decode cX4_trace 37 = .ok (.aload_n 0, 1) := by decide +kernel
theorem dX4_trace_38 : decode cX4_trace 38 = .ok (.getfield 74, 3) := by decide +kernel
theorem dX4_trace_41 : decode cX4_trace 41 = .ok (.iload_n 1, 1) := by decide +kernel
theorem dX4_trace_42 : decode cX4_trace 42 = .ok (.iaload, 1) := by decide +kernel
theorem dX4_trace_43 : decode cX4_trace 43 = .ok (.goto 9, 3) := by decide +kernel
theorem dX4_trace_46 : decode cX4_trace 46 = .ok (.aload_n 0, 1) := by decide +kernel
theorem dX4_trace_47 : decode cX4_trace 47 = .ok (.getfield 77, 3) := by decide +kernel
theorem dX4_trace_50 : decode cX4_trace 50 = .ok (.iload_n 1, 1) := by decide +kernel
theorem dX4_trace_51 : decode cX4_trace 51 = .ok (.iaload, 1) := by decide +kernel
theorem dX4_trace_52 : decode cX4_trace 52 = .ok (.ireturn, 1) := by decide +kernel
theorem dX4_isCarried_0 : decode cX4_isCarried 0 = .ok (.iconst 1, 1) := by decide +kernel
theorem dX4_isCarried_1 : decode cX4_isCarried 1 = .ok (.istore_n 1, 1) := by decide +kernel
theorem dX4_isCarried_2 : decode cX4_isCarried 2 = .ok (.iload_n 1, 1) := by decide +kernel
theorem dX4_isCarried_3 : decode cX4_isCarried 3 = .ok (.aload_n 0, 1) := by decide +kernel
theorem dX4_isCarried_4 : decode cX4_isCarried 4 = .ok (.getfield 184, 3) := by decide +kernel
theorem dX4_isCarried_7 : decode cX4_isCarried 7 = .ok (.iconst 1, 1) := by decide +kernel
theorem dX4_isCarried_8 : decode cX4_isCarried 8 = .ok (.isub, 1) := by decide +kernel
theorem dX4_isCarried_9 : decode cX4_isCarried 9 = .ok (.if_icmp .ge 20, 3) := by decide +kernel
theorem dX4_isCarried_12 : decode cX4_isCarried 12 = .ok (.aload_n 0, 1) := by decide +kernel
theorem dX4_isCarried_13 : decode cX4_isCarried 13 = .ok (.getfield 71, 3) := by decide +kernel
theorem dX4_isCarried_16 : decode cX4_isCarried 16 = .ok (.iload_n 1, 1) := by decide +kernel
theorem dX4_isCarried_17 : decode cX4_isCarried 17 = .ok (.iaload, 1) := by decide +kernel
theorem dX4_isCarried_18 : decode cX4_isCarried 18 = .ok (.ifCond .ne 5, 3) := by decide +kernel
theorem dX4_isCarried_21 : decode cX4_isCarried 21 = .ok (.iconst 0, 1) := by decide +kernel
theorem dX4_isCarried_22 : decode cX4_isCarried 22 = .ok (.ireturn, 1) := by decide +kernel
theorem dX4_isCarried_23 : decode cX4_isCarried 23 = .ok (.iinc 1 1, 3) := by decide +kernel
theorem dX4_isCarried_26 : decode cX4_isCarried 26 = .ok (.goto (-24), 3) := by decide +kernel
theorem dX4_isCarried_29 : decode cX4_isCarried 29 = .ok (.iconst 1, 1) := by decide +kernel
theorem dX4_isCarried_30 : decode cX4_isCarried 30 = .ok (.ireturn, 1) := by decide +kernel
theorem dX4_served_0 : decode cX4_served 0 = .ok (.iload_n 1, 1) := by decide +kernel
theorem dX4_served_1 : decode cX4_served 1 = .ok (.invokestatic 99, 3) := by decide +kernel
theorem dX4_served_4 : decode cX4_served 4 = .ok (.ifCond .ne 5, 3) := by decide +kernel
theorem dX4_served_7 : decode cX4_served 7 = .ok (.iconst (-1), 1) := by decide +kernel
theorem dX4_served_8 : decode cX4_served 8 = .ok (.ireturn, 1) := by decide +kernel
theorem dX4_served_9 : decode cX4_served 9 = .ok (.iload_n 2, 1) := by decide +kernel
theorem dX4_served_10 : decode cX4_served 10 = .ok (.iconst 0, 1) := by decide +kernel
theorem dX4_served_11 : decode cX4_served 11 = .ok (.iconst 2, 1) := by decide +kernel
theorem dX4_served_12 : decode cX4_served 12 = .ok (.invokestatic 80, 3) := by decide +kernel
theorem dX4_served_15 : decode cX4_served 15 = .ok (.ifCond .ne 6, 3) := by decide +kernel
theorem dX4_served_18 : decode cX4_served 18 = .ok (.bipush (-2), 2) := by decide +kernel
theorem dX4_served_20 : decode cX4_served 20 = .ok (.ireturn, 1) := by decide +kernel
theorem dX4_served_21 : decode cX4_served 21 = .ok (.iconst 0, 1) := by decide +kernel
theorem dX4_served_22 : decode cX4_served 22 = .ok (.istore_n 3, 1) := by decide +kernel
theorem dX4_served_23 : decode cX4_served 23 = .ok (.iconst 0, 1) := by decide +kernel
theorem dX4_served_24 : decode cX4_served 24 = .ok (.istore 4, 2) := by decide +kernel
theorem dX4_served_26 : decode cX4_served 26 = .ok (.iload 4, 2) := by decide +kernel
theorem dX4_served_28 : decode cX4_served 28 = .ok (.bipush 7, 2) := by decide +kernel
theorem dX4_served_30 : decode cX4_served 30 = .ok (.if_icmp .ge 88, 3) := by decide +kernel
theorem dX4_served_33 : decode cX4_served 33 = .ok (.aload_n 0, 1) := by decide +kernel
theorem dX4_served_34 : decode cX4_served 34 = .ok (.iload 4, 2) := by decide +kernel
theorem dX4_served_36 : decode cX4_served 36 = .ok (.iload_n 1, 1) := by decide +kernel
theorem dX4_served_37 : decode cX4_served 37 = .ok (.invokevirtual 187, 3) := by decide +kernel
theorem dX4_served_40 : decode cX4_served 40 = .ok (.ifCond .ne 7, 3) := by decide +kernel
theorem dX4_served_43 : decode cX4_served 43 = .ok (.iconst 1, 1) := by decide +kernel
theorem dX4_served_44 : decode cX4_served 44 = .ok (.goto 4, 3) := by decide +kernel
theorem dX4_served_47 : decode cX4_served 47 = .ok (.iconst 0, 1) := by decide +kernel
theorem dX4_served_48 : decode cX4_served 48 = .ok (.istore 5, 2) := by decide +kernel
theorem dX4_served_50 : decode cX4_served 50 = .ok (.iload_n 2, 1) := by decide +kernel
theorem dX4_served_51 : decode cX4_served 51 = .ok (.ifCond .ne 8, 3) := by decide +kernel
theorem dX4_served_54 : decode cX4_served 54 = .ok (.iload 5, 2) := by decide +kernel
theorem dX4_served_56 : decode cX4_served 56 = .ok (.goto 38, 3) := by decide +kernel
theorem dX4_served_59 : decode cX4_served 59 = .ok (.iload_n 2, 1) := by decide +kernel
theorem dX4_served_60 : decode cX4_served 60 = .ok (.iconst 1, 1) := by decide +kernel
theorem dX4_served_61 : decode cX4_served 61 = .ok (.if_icmp .ne 16, 3) := by decide +kernel
theorem dX4_served_64 : decode cX4_served 64 = .ok (.iload 5, 2) := by decide +kernel
theorem dX4_served_66 : decode cX4_served 66 = .ok (.ifCond .ne 7, 3) := by decide +kernel
theorem dX4_served_69 : decode cX4_served 69 = .ok (.iconst 1, 1) := by decide +kernel
theorem dX4_served_70 : decode cX4_served 70 = .ok (.goto 24, 3) := by decide +kernel
theorem dX4_served_73 : decode cX4_served 73 = .ok (.iconst 0, 1) := by decide +kernel
theorem dX4_served_74 : decode cX4_served 74 = .ok (.goto 20, 3) := by decide +kernel
theorem dX4_served_77 : decode cX4_served 77 = .ok (.iload 5, 2) := by decide +kernel
theorem dX4_served_79 : decode cX4_served 79 = .ok (.ifCond .eq 14, 3) := by decide +kernel
theorem dX4_served_82 : decode cX4_served 82 = .ok (.aload_n 0, 1) := by decide +kernel
theorem dX4_served_83 : decode cX4_served 83 = .ok (.invokevirtual 193, 3) := by decide +kernel
theorem dX4_served_86 : decode cX4_served 86 = .ok (.ifCond .eq 7, 3) := by decide +kernel
theorem dX4_served_89 : decode cX4_served 89 = .ok (.iconst 1, 1) := by decide +kernel
theorem dX4_served_90 : decode cX4_served 90 = .ok (.goto 4, 3) := by decide +kernel
theorem dX4_served_93 : decode cX4_served 93 = .ok (.iconst 0, 1) := by decide +kernel
theorem dX4_served_94 : decode cX4_served 94 = .ok (.istore 6, 2) := by decide +kernel
theorem dX4_served_96 : decode cX4_served 96 = .ok (.iload_n 3, 1) := by decide +kernel
theorem dX4_served_97 : decode cX4_served 97 = .ok (.iload 6, 2) := by decide +kernel
theorem dX4_served_99 : decode cX4_served 99 = .ok (.ifCond .eq 10, 3) := by decide +kernel
theorem dX4_served_102 : decode cX4_served 102 = .ok (.iconst 1, 1) := by decide +kernel
theorem dX4_served_103 : decode cX4_served 103 = .ok (.iload 4, 2) := by decide +kernel
theorem dX4_served_105 : decode cX4_served 105 = .ok (.ishl, 1) := by decide +kernel
theorem dX4_served_106 : decode cX4_served 106 = .ok (.goto 4, 3) := by decide +kernel
theorem dX4_served_109 : decode cX4_served 109 = .ok (.iconst 0, 1) := by decide +kernel
theorem dX4_served_110 : decode cX4_served 110 = .ok (.ior, 1) := by decide +kernel
theorem dX4_served_111 : decode cX4_served 111 = .ok (.istore_n 3, 1) := by decide +kernel
theorem dX4_served_112 : decode cX4_served 112 = .ok (.iinc 4 1, 3) := by decide +kernel
theorem dX4_served_115 : decode cX4_served 115 = .ok (.goto (-89), 3) := by decide +kernel
theorem dX4_served_118 : decode cX4_served 118 = .ok (.iload_n 3, 1) := by decide +kernel
theorem dX4_served_119 : decode cX4_served 119 = .ok (.ireturn, 1) := by decide +kernel
theorem dX4_merged_0 : decode cX4_merged 0 = .ok (.iload_n 1, 1) := by decide +kernel
theorem dX4_merged_1 : decode cX4_merged 1 = .ok (.invokestatic 88, 3) := by decide +kernel
theorem dX4_merged_4 : decode cX4_merged 4 = .ok (.ifCond .eq 10, 3) := by decide +kernel
theorem dX4_merged_7 : decode cX4_merged 7 = .ok (.iload_n 2, 1) := by decide +kernel
theorem dX4_merged_8 : decode cX4_merged 8 = .ok (.invokestatic 99, 3) := by decide +kernel
theorem dX4_merged_11 : decode cX4_merged 11 = .ok (.ifCond .ne 5, 3) := by decide +kernel
theorem dX4_merged_14 : decode cX4_merged 14 = .ok (.iconst (-1), 1) := by decide +kernel
theorem dX4_merged_15 : decode cX4_merged 15 = .ok (.ireturn, 1) := by decide +kernel
theorem dX4_merged_16 : decode cX4_merged 16 = .ok (.iconst 0, 1) := by decide +kernel
theorem dX4_merged_17 : decode cX4_merged 17 = .ok (.istore_n 3, 1) := by decide +kernel
theorem dX4_merged_18 : decode cX4_merged 18 = .ok (.iconst 0, 1) := by decide +kernel
theorem dX4_merged_19 : decode cX4_merged 19 = .ok (.istore 4, 2) := by decide +kernel
theorem dX4_merged_21 : decode cX4_merged 21 = .ok (.iload 4, 2) := by decide +kernel
theorem dX4_merged_23 : decode cX4_merged 23 = .ok (.bipush 7, 2) := by decide +kernel
theorem dX4_merged_25 : decode cX4_merged 25 = .ok (.if_icmp .ge 41, 3) := by decide +kernel
theorem dX4_merged_28 : decode cX4_merged 28 = .ok (.iload_n 3, 1) := by decide +kernel
theorem dX4_merged_29 : decode cX4_merged 29 = .ok (.aload_n 0, 1) := by decide +kernel
theorem dX4_merged_30 : decode cX4_merged 30 = .ok (.iload 4, 2) := by decide +kernel
theorem dX4_merged_32 : decode cX4_merged 32 = .ok (.iload_n 2, 1) := by decide +kernel
theorem dX4_merged_33 : decode cX4_merged 33 = .ok (.invokevirtual 106, 3) := by decide +kernel
theorem dX4_merged_36 : decode cX4_merged 36 = .ok (.iload_n 1, 1) := by decide +kernel
theorem dX4_merged_37 : decode cX4_merged 37 = .ok (.if_icmp .ne 20, 3) := by decide +kernel
theorem dX4_merged_40 : decode cX4_merged 40 = .ok (.aload_n 0, 1) := by decide +kernel
theorem dX4_merged_41 : decode cX4_merged 41 = .ok (.iload 4, 2) := by decide +kernel
theorem dX4_merged_43 : decode cX4_merged 43 = .ok (.iload_n 2, 1) := by decide +kernel
theorem dX4_merged_44 : decode cX4_merged 44 = .ok (.invokevirtual 174, 3) := by decide +kernel
theorem dX4_merged_47 : decode cX4_merged 47 = .ok (.ifCond .le 10, 3) := by decide +kernel
theorem dX4_merged_50 : decode cX4_merged 50 = .ok (.iconst 1, 1) := by decide +kernel
theorem dX4_merged_51 : decode cX4_merged 51 = .ok (.iload 4, 2) := by decide +kernel
theorem dX4_merged_53 : decode cX4_merged 53 = .ok (.ishl, 1) := by decide +kernel
theorem dX4_merged_54 : decode cX4_merged 54 = .ok (.goto 4, 3) := by decide +kernel
theorem dX4_merged_57 : decode cX4_merged 57 = .ok (.iconst 0, 1) := by decide +kernel
theorem dX4_merged_58 : decode cX4_merged 58 = .ok (.ior, 1) := by decide +kernel
theorem dX4_merged_59 : decode cX4_merged 59 = .ok (.istore_n 3, 1) := by decide +kernel
theorem dX4_merged_60 : decode cX4_merged 60 = .ok (.iinc 4 1, 3) := by decide +kernel
theorem dX4_merged_63 : decode cX4_merged 63 = .ok (.goto (-42), 3) := by decide +kernel
theorem dX4_merged_66 : decode cX4_merged 66 = .ok (.iload_n 3, 1) := by decide +kernel
theorem dX4_merged_67 : decode cX4_merged 67 = .ok (.ireturn, 1) := by decide +kernel
theorem dX4_manyIn_0 : decode cX4_manyIn 0 = .ok (.iconst 0, 1) := by decide +kernel
theorem dX4_manyIn_1 : decode cX4_manyIn 1 = .ok (.istore_n 1, 1) := by decide +kernel
theorem dX4_manyIn_2 : decode cX4_manyIn 2 = .ok (.iconst 0, 1) := by decide +kernel
theorem dX4_manyIn_3 : decode cX4_manyIn 3 = .ok (.istore_n 2, 1) := by decide +kernel
theorem dX4_manyIn_4 : decode cX4_manyIn 4 = .ok (.iload_n 2, 1) := by decide +kernel
theorem dX4_manyIn_5 : decode cX4_manyIn 5 = .ok (.sipush 336, 3) := by decide +kernel
theorem dX4_manyIn_8 : decode cX4_manyIn 8 = .ok (.if_icmp .ge 23, 3) := by decide +kernel
theorem dX4_manyIn_11 : decode cX4_manyIn 11 = .ok (.iload_n 1, 1) := by decide +kernel
theorem dX4_manyIn_12 : decode cX4_manyIn 12 = .ok (.aload_n 0, 1) := by decide +kernel
theorem dX4_manyIn_13 : decode cX4_manyIn 13 = .ok (.iload_n 2, 1) := by decide +kernel
theorem dX4_manyIn_14 : decode cX4_manyIn 14 = .ok (.iaload, 1) := by decide +kernel
theorem dX4_manyIn_15 : decode cX4_manyIn 15 = .ok (.ifCond .le 7, 3) := by decide +kernel
theorem dX4_manyIn_18 : decode cX4_manyIn 18 = .ok (.iconst 1, 1) := by decide +kernel
theorem dX4_manyIn_19 : decode cX4_manyIn 19 = .ok (.goto 4, 3) := by decide +kernel
theorem dX4_manyIn_22 : decode cX4_manyIn 22 = .ok (.iconst 0, 1) := by decide +kernel
theorem dX4_manyIn_23 : decode cX4_manyIn 23 = .ok (.iadd, 1) := by decide +kernel
theorem dX4_manyIn_24 : decode cX4_manyIn 24 = .ok (.istore_n 1, 1) := by decide +kernel
theorem dX4_manyIn_25 : decode cX4_manyIn 25 = .ok (.iinc 2 1, 3) := by decide +kernel
theorem dX4_manyIn_28 : decode cX4_manyIn 28 = .ok (.goto (-24), 3) := by decide +kernel
theorem dX4_manyIn_31 : decode cX4_manyIn 31 = .ok (.iload_n 1, 1) := by decide +kernel
theorem dX4_manyIn_32 : decode cX4_manyIn 32 = .ok (.ireturn, 1) := by decide +kernel
theorem dX4_many_0 : decode cX4_many 0 = .ok (.iconst 0, 1) := by decide +kernel
theorem dX4_many_1 : decode cX4_many 1 = .ok (.istore_n 2, 1) := by decide +kernel
theorem dX4_many_2 : decode cX4_many 2 = .ok (.iload_n 1, 1) := by decide +kernel
theorem dX4_many_3 : decode cX4_many 3 = .ok (.tableswitch 174 0 6 #[41, 46, 81, 89, 97, 131, 136], 41) := by decide +kernel
theorem dX4_many_44 : decode cX4_many 44 = .ok (.aload_n 0, 1) := by decide +kernel
theorem dX4_many_45 : decode cX4_many 45 = .ok (.getfield 84, 3) := by decide +kernel
theorem dX4_many_48 : decode cX4_many 48 = .ok (.ireturn, 1) := by decide +kernel
theorem dX4_many_49 : decode cX4_many 49 = .ok (.iconst 0, 1) := by decide +kernel
theorem dX4_many_50 : decode cX4_many 50 = .ok (.istore_n 3, 1) := by decide +kernel
theorem dX4_many_51 : decode cX4_many 51 = .ok (.iload_n 3, 1) := by decide +kernel
theorem dX4_many_52 : decode cX4_many 52 = .ok (.aload_n 0, 1) := by decide +kernel
theorem dX4_many_53 : decode cX4_many 53 = .ok (.getfield 84, 3) := by decide +kernel
theorem dX4_many_56 : decode cX4_many 56 = .ok (.if_icmp .ge 26, 3) := by decide +kernel
theorem dX4_many_59 : decode cX4_many 59 = .ok (.iload_n 2, 1) := by decide +kernel
theorem dX4_many_60 : decode cX4_many 60 = .ok (.aload_n 0, 1) := by decide +kernel
theorem dX4_many_61 : decode cX4_many 61 = .ok (.getfield 19, 3) := by decide +kernel
theorem dX4_many_64 : decode cX4_many 64 = .ok (.iload_n 3, 1) := by decide +kernel
theorem dX4_many_65 : decode cX4_many 65 = .ok (.baload, 1) := by decide +kernel
theorem dX4_many_66 : decode cX4_many 66 = .ok (.ifCond .eq 7, 3) := by decide +kernel
theorem dX4_many_69 : decode cX4_many 69 = .ok (.iconst 1, 1) := by decide +kernel
theorem dX4_many_70 : decode cX4_many 70 = .ok (.goto 4, 3) := by decide +kernel
theorem dX4_many_73 : decode cX4_many 73 = .ok (.iconst 0, 1) := by decide +kernel
theorem dX4_many_74 : decode cX4_many 74 = .ok (.iadd, 1) := by decide +kernel
theorem dX4_many_75 : decode cX4_many 75 = .ok (.istore_n 2, 1) := by decide +kernel
theorem dX4_many_76 : decode cX4_many 76 = .ok (.iinc 3 1, 3) := by decide +kernel
theorem dX4_many_79 : decode cX4_many 79 = .ok (.goto (-28), 3) := by decide +kernel
theorem dX4_many_82 : decode cX4_many 82 = .ok (.iload_n 2, 1) := by decide +kernel
theorem dX4_many_83 : decode cX4_many 83 = .ok (.ireturn, 1) := by decide +kernel
theorem dX4_many_84 : decode cX4_many 84 = .ok (.aload_n 0, 1) := by decide +kernel
theorem dX4_many_85 : decode cX4_many 85 = .ok (.getfield 35, 3) := by decide +kernel
theorem dX4_many_88 : decode cX4_many 88 = .ok (.invokestatic 197, 3) := by decide +kernel
theorem dX4_many_91 : decode cX4_many 91 = .ok (.ireturn, 1) := by decide +kernel
theorem dX4_many_92 : decode cX4_many 92 = .ok (.aload_n 0, 1) := by decide +kernel
theorem dX4_many_93 : decode cX4_many 93 = .ok (.getfield 41, 3) := by decide +kernel
theorem dX4_many_96 : decode cX4_many 96 = .ok (.invokestatic 197, 3) := by decide +kernel
theorem dX4_many_99 : decode cX4_many 99 = .ok (.ireturn, 1) := by decide +kernel
theorem dX4_many_100 : decode cX4_many 100 = .ok (.iconst 0, 1) := by decide +kernel
theorem dX4_many_101 : decode cX4_many 101 = .ok (.istore_n 3, 1) := by decide +kernel
theorem dX4_many_102 : decode cX4_many 102 = .ok (.iload_n 3, 1) := by decide +kernel
theorem dX4_many_103 : decode cX4_many 103 = .ok (.iconst 4, 1) := by decide +kernel
theorem dX4_many_104 : decode cX4_many 104 = .ok (.if_icmp .ge 28, 3) := by decide +kernel
theorem dX4_many_107 : decode cX4_many 107 = .ok (.iload_n 2, 1) := by decide +kernel
theorem dX4_many_108 : decode cX4_many 108 = .ok (.aload_n 0, 1) := by decide +kernel
theorem dX4_many_109 : decode cX4_many 109 = .ok (.getfield 23, 3) := by decide +kernel
theorem dX4_many_112 : decode cX4_many 112 = .ok (.iload_n 3, 1) := by decide +kernel
theorem dX4_many_113 : decode cX4_many 113 = .ok (.iaload, 1) := by decide +kernel
theorem dX4_many_114 : decode cX4_many 114 = .ok (.bipush (-9), 2) := by decide +kernel
theorem dX4_many_116 : decode cX4_many 116 = .ok (.if_icmp .ne 7, 3) := by decide +kernel
theorem dX4_many_119 : decode cX4_many 119 = .ok (.iconst 0, 1) := by decide +kernel
theorem dX4_many_120 : decode cX4_many 120 = .ok (.goto 4, 3) := by decide +kernel
theorem dX4_many_123 : decode cX4_many 123 = .ok (.iconst 1, 1) := by decide +kernel
theorem dX4_many_124 : decode cX4_many 124 = .ok (.iadd, 1) := by decide +kernel
theorem dX4_many_125 : decode cX4_many 125 = .ok (.istore_n 2, 1) := by decide +kernel
theorem dX4_many_126 : decode cX4_many 126 = .ok (.iinc 3 1, 3) := by decide +kernel
theorem dX4_many_129 : decode cX4_many 129 = .ok (.goto (-27), 3) := by decide +kernel
theorem dX4_many_132 : decode cX4_many 132 = .ok (.iload_n 2, 1) := by decide +kernel
theorem dX4_many_133 : decode cX4_many 133 = .ok (.ireturn, 1) := by decide +kernel
theorem dX4_many_134 : decode cX4_many 134 = .ok (.aload_n 0, 1) := by decide +kernel
theorem dX4_many_135 : decode cX4_many 135 = .ok (.getfield 161, 3) := by decide +kernel
theorem dX4_many_138 : decode cX4_many 138 = .ok (.ireturn, 1) := by decide +kernel
theorem dX4_many_139 : decode cX4_many 139 = .ok (.iconst 0, 1) := by decide +kernel
theorem dX4_many_140 : decode cX4_many 140 = .ok (.istore_n 3, 1) := by decide +kernel
theorem dX4_many_141 : decode cX4_many 141 = .ok (.iload_n 3, 1) := by decide +kernel
theorem dX4_many_142 : decode cX4_many 142 = .ok (.sipush 336, 3) := by decide +kernel
theorem dX4_many_145 : decode cX4_many 145 = .ok (.if_icmp .ge 30, 3) := by decide +kernel
theorem dX4_many_148 : decode cX4_many 148 = .ok (.aload_n 0, 1) := by decide +kernel
theorem dX4_many_149 : decode cX4_many 149 = .ok (.getfield 35, 3) := by decide +kernel
theorem dX4_many_152 : decode cX4_many 152 = .ok (.iload_n 3, 1) := by decide +kernel
theorem dX4_many_153 : decode cX4_many 153 = .ok (.iaload, 1) := by decide +kernel
theorem dX4_many_154 : decode cX4_many 154 = .ok (.iload_n 2, 1) := by decide +kernel
theorem dX4_many_155 : decode cX4_many 155 = .ok (.if_icmp .le 12, 3) := by decide +kernel
theorem dX4_many_158 : decode cX4_many 158 = .ok (.aload_n 0, 1) := by decide +kernel
theorem dX4_many_159 : decode cX4_many 159 = .ok (.getfield 35, 3) := by decide +kernel
theorem dX4_many_162 : decode cX4_many 162 = .ok (.iload_n 3, 1) := by decide +kernel
theorem dX4_many_163 : decode cX4_many 163 = .ok (.iaload, 1) := by decide +kernel
theorem dX4_many_164 : decode cX4_many 164 = .ok (.goto 4, 3) := by decide +kernel
theorem dX4_many_167 : decode cX4_many 167 = .ok (.iload_n 2, 1) := by decide +kernel
theorem dX4_many_168 : decode cX4_many 168 = .ok (.istore_n 2, 1) := by decide +kernel
theorem dX4_many_169 : decode cX4_many 169 = .ok (.iinc 3 1, 3) := by decide +kernel
theorem dX4_many_172 : decode cX4_many 172 = .ok (.goto (-31), 3) := by decide +kernel
theorem dX4_many_175 : decode cX4_many 175 = .ok (.iload_n 2, 1) := by decide +kernel
theorem dX4_many_176 : decode cX4_many 176 = .ok (.ireturn, 1) := by decide +kernel
theorem dX4_many_177 : decode cX4_many 177 = .ok (.bipush (-2), 2) := by decide +kernel
theorem dX4_many_179 : decode cX4_many 179 = .ok (.ireturn, 1) := by decide +kernel
theorem dL_law_0 : decode cL_law 0 = .ok (.new 7, 3) := by decide +kernel
theorem dL_law_3 : decode cL_law 3 = .ok (.dup, 1) := by decide +kernel
theorem dL_law_4 : decode cL_law 4 = .ok (.invokespecial 9, 3) := by decide +kernel
theorem dL_law_7 : decode cL_law 7 = .ok (.astore_n 1, 1) := by decide +kernel
theorem dL_law_8 : decode cL_law 8 = .ok (.new 10, 3) := by decide +kernel
theorem dL_law_11 : decode cL_law 11 = .ok (.dup, 1) := by decide +kernel
theorem dL_law_12 : decode cL_law 12 = .ok (.invokespecial 12, 3) := by decide +kernel
theorem dL_law_15 : decode cL_law 15 = .ok (.astore_n 2, 1) := by decide +kernel
theorem dL_law_16 : decode cL_law 16 = .ok (.iconst 0, 1) := by decide +kernel
theorem dL_law_17 : decode cL_law 17 = .ok (.istore_n 3, 1) := by decide +kernel
theorem dL_law_18 : decode cL_law 18 = .ok (.iload_n 3, 1) := by decide +kernel
theorem dL_law_19 : decode cL_law 19 = .ok (.aload_n 0, 1) := by decide +kernel
theorem dL_law_20 : decode cL_law 20 = .ok (.arraylength, 1) := by decide +kernel
theorem dL_law_21 : decode cL_law 21 = .ok (.iconst 5, 1) := by decide +kernel
theorem dL_law_22 : decode cL_law 22 = .ok (.isub, 1) := by decide +kernel
theorem dL_law_23 : decode cL_law 23 = .ok (.if_icmp .gt 801, 3) := by decide +kernel
theorem dL_law_26 : decode cL_law 26 = .ok (.aload_n 0, 1) := by decide +kernel
theorem dL_law_27 : decode cL_law 27 = .ok (.iload_n 3, 1) := by decide +kernel
theorem dL_law_28 : decode cL_law 28 = .ok (.iaload, 1) := by decide +kernel
theorem dL_law_29 : decode cL_law 29 = .ok (.bipush 31, 2) := by decide +kernel
theorem dL_law_31 : decode cL_law 31 = .ok (.iand, 1) := by decide +kernel
theorem dL_law_32 : decode cL_law 32 = .ok (.tableswitch 786 0 19 #[96, 139, 172, 205, 238, 271, 304, 337, 380, 413, 436, 489, 542, 575, 618, 631, 664, 697, 730, 763], 96) := by decide +kernel
theorem dL_law_128 : decode cL_law 128 = .ok (.aload_n 1, 1) := by decide +kernel
theorem dL_law_129 : decode cL_law 129 = .ok (.aload_n 0, 1) := by decide +kernel
theorem dL_law_130 : decode cL_law 130 = .ok (.iload_n 3, 1) := by decide +kernel
theorem dL_law_131 : decode cL_law 131 = .ok (.iconst 1, 1) := by decide +kernel
theorem dL_law_132 : decode cL_law 132 = .ok (.iadd, 1) := by decide +kernel
theorem dL_law_133 : decode cL_law 133 = .ok (.iaload, 1) := by decide +kernel
theorem dL_law_134 : decode cL_law 134 = .ok (.aload_n 0, 1) := by decide +kernel
theorem dL_law_135 : decode cL_law 135 = .ok (.iload_n 3, 1) := by decide +kernel
theorem dL_law_136 : decode cL_law 136 = .ok (.iconst 2, 1) := by decide +kernel
theorem dL_law_137 : decode cL_law 137 = .ok (.iadd, 1) := by decide +kernel
theorem dL_law_138 : decode cL_law 138 = .ok (.iaload, 1) := by decide +kernel
theorem dL_law_139 : decode cL_law 139 = .ok (.aload_n 0, 1) := by decide +kernel
theorem dL_law_140 : decode cL_law 140 = .ok (.iload_n 3, 1) := by decide +kernel
theorem dL_law_141 : decode cL_law 141 = .ok (.iconst 3, 1) := by decide +kernel
theorem dL_law_142 : decode cL_law 142 = .ok (.iadd, 1) := by decide +kernel
theorem dL_law_143 : decode cL_law 143 = .ok (.iaload, 1) := by decide +kernel
theorem dL_law_144 : decode cL_law 144 = .ok (.invokevirtual 13, 3) := by decide +kernel
theorem dL_law_147 : decode cL_law 147 = .ok (.aload_n 2, 1) := by decide +kernel
theorem dL_law_148 : decode cL_law 148 = .ok (.aload_n 0, 1) := by decide +kernel
theorem dL_law_149 : decode cL_law 149 = .ok (.iload_n 3, 1) := by decide +kernel
theorem dL_law_150 : decode cL_law 150 = .ok (.iconst 1, 1) := by decide +kernel
theorem dL_law_151 : decode cL_law 151 = .ok (.iadd, 1) := by decide +kernel
theorem dL_law_152 : decode cL_law 152 = .ok (.iaload, 1) := by decide +kernel
theorem dL_law_153 : decode cL_law 153 = .ok (.aload_n 0, 1) := by decide +kernel
theorem dL_law_154 : decode cL_law 154 = .ok (.iload_n 3, 1) := by decide +kernel
theorem dL_law_155 : decode cL_law 155 = .ok (.iconst 2, 1) := by decide +kernel
theorem dL_law_156 : decode cL_law 156 = .ok (.iadd, 1) := by decide +kernel
theorem dL_law_157 : decode cL_law 157 = .ok (.iaload, 1) := by decide +kernel
theorem dL_law_158 : decode cL_law 158 = .ok (.aload_n 0, 1) := by decide +kernel
theorem dL_law_159 : decode cL_law 159 = .ok (.iload_n 3, 1) := by decide +kernel
theorem dL_law_160 : decode cL_law 160 = .ok (.iconst 3, 1) := by decide +kernel
theorem dL_law_161 : decode cL_law 161 = .ok (.iadd, 1) := by decide +kernel
theorem dL_law_162 : decode cL_law 162 = .ok (.iaload, 1) := by decide +kernel
theorem dL_law_163 : decode cL_law 163 = .ok (.invokevirtual 17, 3) := by decide +kernel
theorem dL_law_166 : decode cL_law 166 = .ok (.if_icmp .eq 652, 3) := by decide +kernel
theorem dL_law_169 : decode cL_law 169 = .ok (.iconst 0, 1) := by decide +kernel
theorem dL_law_170 : decode cL_law 170 = .ok (.ireturn, 1) := by decide +kernel
theorem dL_law_171 : decode cL_law 171 = .ok (.aload_n 1, 1) := by decide +kernel
theorem dL_law_172 : decode cL_law 172 = .ok (.aload_n 0, 1) := by decide +kernel
theorem dL_law_173 : decode cL_law 173 = .ok (.iload_n 3, 1) := by decide +kernel
theorem dL_law_174 : decode cL_law 174 = .ok (.iconst 1, 1) := by decide +kernel
theorem dL_law_175 : decode cL_law 175 = .ok (.iadd, 1) := by decide +kernel
theorem dL_law_176 : decode cL_law 176 = .ok (.iaload, 1) := by decide +kernel
theorem dL_law_177 : decode cL_law 177 = .ok (.aload_n 0, 1) := by decide +kernel
theorem dL_law_178 : decode cL_law 178 = .ok (.iload_n 3, 1) := by decide +kernel
theorem dL_law_179 : decode cL_law 179 = .ok (.iconst 2, 1) := by decide +kernel
theorem dL_law_180 : decode cL_law 180 = .ok (.iadd, 1) := by decide +kernel
theorem dL_law_181 : decode cL_law 181 = .ok (.iaload, 1) := by decide +kernel
theorem dL_law_182 : decode cL_law 182 = .ok (.invokevirtual 18, 3) := by decide +kernel
theorem dL_law_185 : decode cL_law 185 = .ok (.aload_n 2, 1) := by decide +kernel
theorem dL_law_186 : decode cL_law 186 = .ok (.aload_n 0, 1) := by decide +kernel
theorem dL_law_187 : decode cL_law 187 = .ok (.iload_n 3, 1) := by decide +kernel
theorem dL_law_188 : decode cL_law 188 = .ok (.iconst 1, 1) := by decide +kernel
theorem dL_law_189 : decode cL_law 189 = .ok (.iadd, 1) := by decide +kernel
theorem dL_law_190 : decode cL_law 190 = .ok (.iaload, 1) := by decide +kernel
theorem dL_law_191 : decode cL_law 191 = .ok (.aload_n 0, 1) := by decide +kernel
theorem dL_law_192 : decode cL_law 192 = .ok (.iload_n 3, 1) := by decide +kernel
theorem dL_law_193 : decode cL_law 193 = .ok (.iconst 2, 1) := by decide +kernel
theorem dL_law_194 : decode cL_law 194 = .ok (.iadd, 1) := by decide +kernel
theorem dL_law_195 : decode cL_law 195 = .ok (.iaload, 1) := by decide +kernel
theorem dL_law_196 : decode cL_law 196 = .ok (.invokevirtual 22, 3) := by decide +kernel
theorem dL_law_199 : decode cL_law 199 = .ok (.if_icmp .eq 619, 3) := by decide +kernel
theorem dL_law_202 : decode cL_law 202 = .ok (.iconst 0, 1) := by decide +kernel
theorem dL_law_203 : decode cL_law 203 = .ok (.ireturn, 1) := by decide +kernel
theorem dL_law_204 : decode cL_law 204 = .ok (.aload_n 1, 1) := by decide +kernel
theorem dL_law_205 : decode cL_law 205 = .ok (.aload_n 0, 1) := by decide +kernel
theorem dL_law_206 : decode cL_law 206 = .ok (.iload_n 3, 1) := by decide +kernel
theorem dL_law_207 : decode cL_law 207 = .ok (.iconst 1, 1) := by decide +kernel
theorem dL_law_208 : decode cL_law 208 = .ok (.iadd, 1) := by decide +kernel
theorem dL_law_209 : decode cL_law 209 = .ok (.iaload, 1) := by decide +kernel
theorem dL_law_210 : decode cL_law 210 = .ok (.aload_n 0, 1) := by decide +kernel
theorem dL_law_211 : decode cL_law 211 = .ok (.iload_n 3, 1) := by decide +kernel
theorem dL_law_212 : decode cL_law 212 = .ok (.iconst 2, 1) := by decide +kernel
theorem dL_law_213 : decode cL_law 213 = .ok (.iadd, 1) := by decide +kernel
theorem dL_law_214 : decode cL_law 214 = .ok (.iaload, 1) := by decide +kernel
theorem dL_law_215 : decode cL_law 215 = .ok (.invokevirtual 23, 3) := by decide +kernel
theorem dL_law_218 : decode cL_law 218 = .ok (.aload_n 2, 1) := by decide +kernel
theorem dL_law_219 : decode cL_law 219 = .ok (.aload_n 0, 1) := by decide +kernel
theorem dL_law_220 : decode cL_law 220 = .ok (.iload_n 3, 1) := by decide +kernel
theorem dL_law_221 : decode cL_law 221 = .ok (.iconst 1, 1) := by decide +kernel
theorem dL_law_222 : decode cL_law 222 = .ok (.iadd, 1) := by decide +kernel
theorem dL_law_223 : decode cL_law 223 = .ok (.iaload, 1) := by decide +kernel
theorem dL_law_224 : decode cL_law 224 = .ok (.aload_n 0, 1) := by decide +kernel
theorem dL_law_225 : decode cL_law 225 = .ok (.iload_n 3, 1) := by decide +kernel
theorem dL_law_226 : decode cL_law 226 = .ok (.iconst 2, 1) := by decide +kernel
theorem dL_law_227 : decode cL_law 227 = .ok (.iadd, 1) := by decide +kernel
theorem dL_law_228 : decode cL_law 228 = .ok (.iaload, 1) := by decide +kernel
theorem dL_law_229 : decode cL_law 229 = .ok (.invokevirtual 26, 3) := by decide +kernel
theorem dL_law_232 : decode cL_law 232 = .ok (.if_icmp .eq 586, 3) := by decide +kernel
theorem dL_law_235 : decode cL_law 235 = .ok (.iconst 0, 1) := by decide +kernel
theorem dL_law_236 : decode cL_law 236 = .ok (.ireturn, 1) := by decide +kernel
theorem dL_law_237 : decode cL_law 237 = .ok (.aload_n 1, 1) := by decide +kernel
theorem dL_law_238 : decode cL_law 238 = .ok (.aload_n 0, 1) := by decide +kernel
theorem dL_law_239 : decode cL_law 239 = .ok (.iload_n 3, 1) := by decide +kernel
theorem dL_law_240 : decode cL_law 240 = .ok (.iconst 1, 1) := by decide +kernel
theorem dL_law_241 : decode cL_law 241 = .ok (.iadd, 1) := by decide +kernel
theorem dL_law_242 : decode cL_law 242 = .ok (.iaload, 1) := by decide +kernel
theorem dL_law_243 : decode cL_law 243 = .ok (.aload_n 0, 1) := by decide +kernel
theorem dL_law_244 : decode cL_law 244 = .ok (.iload_n 3, 1) := by decide +kernel
theorem dL_law_245 : decode cL_law 245 = .ok (.iconst 2, 1) := by decide +kernel
theorem dL_law_246 : decode cL_law 246 = .ok (.iadd, 1) := by decide +kernel
theorem dL_law_247 : decode cL_law 247 = .ok (.iaload, 1) := by decide +kernel
theorem dL_law_248 : decode cL_law 248 = .ok (.invokevirtual 27, 3) := by decide +kernel
theorem dL_law_251 : decode cL_law 251 = .ok (.aload_n 2, 1) := by decide +kernel
theorem dL_law_252 : decode cL_law 252 = .ok (.aload_n 0, 1) := by decide +kernel
theorem dL_law_253 : decode cL_law 253 = .ok (.iload_n 3, 1) := by decide +kernel
theorem dL_law_254 : decode cL_law 254 = .ok (.iconst 1, 1) := by decide +kernel
theorem dL_law_255 : decode cL_law 255 = .ok (.iadd, 1) := by decide +kernel
theorem dL_law_256 : decode cL_law 256 = .ok (.iaload, 1) := by decide +kernel
theorem dL_law_257 : decode cL_law 257 = .ok (.aload_n 0, 1) := by decide +kernel
theorem dL_law_258 : decode cL_law 258 = .ok (.iload_n 3, 1) := by decide +kernel
theorem dL_law_259 : decode cL_law 259 = .ok (.iconst 2, 1) := by decide +kernel
theorem dL_law_260 : decode cL_law 260 = .ok (.iadd, 1) := by decide +kernel
theorem dL_law_261 : decode cL_law 261 = .ok (.iaload, 1) := by decide +kernel
theorem dL_law_262 : decode cL_law 262 = .ok (.invokevirtual 30, 3) := by decide +kernel
theorem dL_law_265 : decode cL_law 265 = .ok (.if_icmp .eq 553, 3) := by decide +kernel
theorem dL_law_268 : decode cL_law 268 = .ok (.iconst 0, 1) := by decide +kernel
theorem dL_law_269 : decode cL_law 269 = .ok (.ireturn, 1) := by decide +kernel
theorem dL_law_270 : decode cL_law 270 = .ok (.aload_n 1, 1) := by decide +kernel
theorem dL_law_271 : decode cL_law 271 = .ok (.aload_n 0, 1) := by decide +kernel
theorem dL_law_272 : decode cL_law 272 = .ok (.iload_n 3, 1) := by decide +kernel
theorem dL_law_273 : decode cL_law 273 = .ok (.iconst 1, 1) := by decide +kernel
theorem dL_law_274 : decode cL_law 274 = .ok (.iadd, 1) := by decide +kernel
theorem dL_law_275 : decode cL_law 275 = .ok (.iaload, 1) := by decide +kernel
theorem dL_law_276 : decode cL_law 276 = .ok (.aload_n 0, 1) := by decide +kernel
theorem dL_law_277 : decode cL_law 277 = .ok (.iload_n 3, 1) := by decide +kernel
theorem dL_law_278 : decode cL_law 278 = .ok (.iconst 2, 1) := by decide +kernel
theorem dL_law_279 : decode cL_law 279 = .ok (.iadd, 1) := by decide +kernel
theorem dL_law_280 : decode cL_law 280 = .ok (.iaload, 1) := by decide +kernel
theorem dL_law_281 : decode cL_law 281 = .ok (.invokevirtual 31, 3) := by decide +kernel
theorem dL_law_284 : decode cL_law 284 = .ok (.aload_n 2, 1) := by decide +kernel
theorem dL_law_285 : decode cL_law 285 = .ok (.aload_n 0, 1) := by decide +kernel
theorem dL_law_286 : decode cL_law 286 = .ok (.iload_n 3, 1) := by decide +kernel
theorem dL_law_287 : decode cL_law 287 = .ok (.iconst 1, 1) := by decide +kernel
theorem dL_law_288 : decode cL_law 288 = .ok (.iadd, 1) := by decide +kernel
theorem dL_law_289 : decode cL_law 289 = .ok (.iaload, 1) := by decide +kernel
theorem dL_law_290 : decode cL_law 290 = .ok (.aload_n 0, 1) := by decide +kernel
theorem dL_law_291 : decode cL_law 291 = .ok (.iload_n 3, 1) := by decide +kernel
theorem dL_law_292 : decode cL_law 292 = .ok (.iconst 2, 1) := by decide +kernel
theorem dL_law_293 : decode cL_law 293 = .ok (.iadd, 1) := by decide +kernel
theorem dL_law_294 : decode cL_law 294 = .ok (.iaload, 1) := by decide +kernel
theorem dL_law_295 : decode cL_law 295 = .ok (.invokevirtual 34, 3) := by decide +kernel
theorem dL_law_298 : decode cL_law 298 = .ok (.if_icmp .eq 520, 3) := by decide +kernel
theorem dL_law_301 : decode cL_law 301 = .ok (.iconst 0, 1) := by decide +kernel
theorem dL_law_302 : decode cL_law 302 = .ok (.ireturn, 1) := by decide +kernel
theorem dL_law_303 : decode cL_law 303 = .ok (.aload_n 1, 1) := by decide +kernel
theorem dL_law_304 : decode cL_law 304 = .ok (.aload_n 0, 1) := by decide +kernel
theorem dL_law_305 : decode cL_law 305 = .ok (.iload_n 3, 1) := by decide +kernel
theorem dL_law_306 : decode cL_law 306 = .ok (.iconst 1, 1) := by decide +kernel
theorem dL_law_307 : decode cL_law 307 = .ok (.iadd, 1) := by decide +kernel
theorem dL_law_308 : decode cL_law 308 = .ok (.iaload, 1) := by decide +kernel
theorem dL_law_309 : decode cL_law 309 = .ok (.aload_n 0, 1) := by decide +kernel
theorem dL_law_310 : decode cL_law 310 = .ok (.iload_n 3, 1) := by decide +kernel
theorem dL_law_311 : decode cL_law 311 = .ok (.iconst 2, 1) := by decide +kernel
theorem dL_law_312 : decode cL_law 312 = .ok (.iadd, 1) := by decide +kernel
theorem dL_law_313 : decode cL_law 313 = .ok (.iaload, 1) := by decide +kernel
theorem dL_law_314 : decode cL_law 314 = .ok (.invokevirtual 35, 3) := by decide +kernel
theorem dL_law_317 : decode cL_law 317 = .ok (.aload_n 2, 1) := by decide +kernel
theorem dL_law_318 : decode cL_law 318 = .ok (.aload_n 0, 1) := by decide +kernel
theorem dL_law_319 : decode cL_law 319 = .ok (.iload_n 3, 1) := by decide +kernel
theorem dL_law_320 : decode cL_law 320 = .ok (.iconst 1, 1) := by decide +kernel
theorem dL_law_321 : decode cL_law 321 = .ok (.iadd, 1) := by decide +kernel
theorem dL_law_322 : decode cL_law 322 = .ok (.iaload, 1) := by decide +kernel
theorem dL_law_323 : decode cL_law 323 = .ok (.aload_n 0, 1) := by decide +kernel
theorem dL_law_324 : decode cL_law 324 = .ok (.iload_n 3, 1) := by decide +kernel
theorem dL_law_325 : decode cL_law 325 = .ok (.iconst 2, 1) := by decide +kernel
theorem dL_law_326 : decode cL_law 326 = .ok (.iadd, 1) := by decide +kernel
theorem dL_law_327 : decode cL_law 327 = .ok (.iaload, 1) := by decide +kernel
theorem dL_law_328 : decode cL_law 328 = .ok (.invokevirtual 38, 3) := by decide +kernel
theorem dL_law_331 : decode cL_law 331 = .ok (.if_icmp .eq 487, 3) := by decide +kernel
theorem dL_law_334 : decode cL_law 334 = .ok (.iconst 0, 1) := by decide +kernel
theorem dL_law_335 : decode cL_law 335 = .ok (.ireturn, 1) := by decide +kernel
theorem dL_law_336 : decode cL_law 336 = .ok (.aload_n 1, 1) := by decide +kernel
theorem dL_law_337 : decode cL_law 337 = .ok (.aload_n 0, 1) := by decide +kernel
theorem dL_law_338 : decode cL_law 338 = .ok (.iload_n 3, 1) := by decide +kernel
theorem dL_law_339 : decode cL_law 339 = .ok (.iconst 1, 1) := by decide +kernel
theorem dL_law_340 : decode cL_law 340 = .ok (.iadd, 1) := by decide +kernel
theorem dL_law_341 : decode cL_law 341 = .ok (.iaload, 1) := by decide +kernel
theorem dL_law_342 : decode cL_law 342 = .ok (.aload_n 0, 1) := by decide +kernel
theorem dL_law_343 : decode cL_law 343 = .ok (.iload_n 3, 1) := by decide +kernel
theorem dL_law_344 : decode cL_law 344 = .ok (.iconst 2, 1) := by decide +kernel
theorem dL_law_345 : decode cL_law 345 = .ok (.iadd, 1) := by decide +kernel
theorem dL_law_346 : decode cL_law 346 = .ok (.iaload, 1) := by decide +kernel
theorem dL_law_347 : decode cL_law 347 = .ok (.invokevirtual 39, 3) := by decide +kernel
theorem dL_law_350 : decode cL_law 350 = .ok (.aload_n 2, 1) := by decide +kernel
theorem dL_law_351 : decode cL_law 351 = .ok (.aload_n 0, 1) := by decide +kernel
theorem dL_law_352 : decode cL_law 352 = .ok (.iload_n 3, 1) := by decide +kernel
theorem dL_law_353 : decode cL_law 353 = .ok (.iconst 1, 1) := by decide +kernel
theorem dL_law_354 : decode cL_law 354 = .ok (.iadd, 1) := by decide +kernel
theorem dL_law_355 : decode cL_law 355 = .ok (.iaload, 1) := by decide +kernel
theorem dL_law_356 : decode cL_law 356 = .ok (.aload_n 0, 1) := by decide +kernel
theorem dL_law_357 : decode cL_law 357 = .ok (.iload_n 3, 1) := by decide +kernel
theorem dL_law_358 : decode cL_law 358 = .ok (.iconst 2, 1) := by decide +kernel
theorem dL_law_359 : decode cL_law 359 = .ok (.iadd, 1) := by decide +kernel
theorem dL_law_360 : decode cL_law 360 = .ok (.iaload, 1) := by decide +kernel
theorem dL_law_361 : decode cL_law 361 = .ok (.invokevirtual 42, 3) := by decide +kernel
theorem dL_law_364 : decode cL_law 364 = .ok (.if_icmp .eq 454, 3) := by decide +kernel
theorem dL_law_367 : decode cL_law 367 = .ok (.iconst 0, 1) := by decide +kernel
theorem dL_law_368 : decode cL_law 368 = .ok (.ireturn, 1) := by decide +kernel
theorem dL_law_369 : decode cL_law 369 = .ok (.aload_n 1, 1) := by decide +kernel
theorem dL_law_370 : decode cL_law 370 = .ok (.aload_n 0, 1) := by decide +kernel
theorem dL_law_371 : decode cL_law 371 = .ok (.iload_n 3, 1) := by decide +kernel
theorem dL_law_372 : decode cL_law 372 = .ok (.iconst 1, 1) := by decide +kernel
theorem dL_law_373 : decode cL_law 373 = .ok (.iadd, 1) := by decide +kernel
theorem dL_law_374 : decode cL_law 374 = .ok (.iaload, 1) := by decide +kernel
theorem dL_law_375 : decode cL_law 375 = .ok (.aload_n 0, 1) := by decide +kernel
theorem dL_law_376 : decode cL_law 376 = .ok (.iload_n 3, 1) := by decide +kernel
theorem dL_law_377 : decode cL_law 377 = .ok (.iconst 2, 1) := by decide +kernel
theorem dL_law_378 : decode cL_law 378 = .ok (.iadd, 1) := by decide +kernel
theorem dL_law_379 : decode cL_law 379 = .ok (.iaload, 1) := by decide +kernel
theorem dL_law_380 : decode cL_law 380 = .ok (.aload_n 0, 1) := by decide +kernel
theorem dL_law_381 : decode cL_law 381 = .ok (.iload_n 3, 1) := by decide +kernel
theorem dL_law_382 : decode cL_law 382 = .ok (.iconst 3, 1) := by decide +kernel
theorem dL_law_383 : decode cL_law 383 = .ok (.iadd, 1) := by decide +kernel
theorem dL_law_384 : decode cL_law 384 = .ok (.iaload, 1) := by decide +kernel
theorem dL_law_385 : decode cL_law 385 = .ok (.invokevirtual 43, 3) := by decide +kernel
theorem dL_law_388 : decode cL_law 388 = .ok (.aload_n 2, 1) := by decide +kernel
theorem dL_law_389 : decode cL_law 389 = .ok (.aload_n 0, 1) := by decide +kernel
theorem dL_law_390 : decode cL_law 390 = .ok (.iload_n 3, 1) := by decide +kernel
theorem dL_law_391 : decode cL_law 391 = .ok (.iconst 1, 1) := by decide +kernel
theorem dL_law_392 : decode cL_law 392 = .ok (.iadd, 1) := by decide +kernel
theorem dL_law_393 : decode cL_law 393 = .ok (.iaload, 1) := by decide +kernel
theorem dL_law_394 : decode cL_law 394 = .ok (.aload_n 0, 1) := by decide +kernel
theorem dL_law_395 : decode cL_law 395 = .ok (.iload_n 3, 1) := by decide +kernel
theorem dL_law_396 : decode cL_law 396 = .ok (.iconst 2, 1) := by decide +kernel
theorem dL_law_397 : decode cL_law 397 = .ok (.iadd, 1) := by decide +kernel
theorem dL_law_398 : decode cL_law 398 = .ok (.iaload, 1) := by decide +kernel
theorem dL_law_399 : decode cL_law 399 = .ok (.aload_n 0, 1) := by decide +kernel
theorem dL_law_400 : decode cL_law 400 = .ok (.iload_n 3, 1) := by decide +kernel
theorem dL_law_401 : decode cL_law 401 = .ok (.iconst 3, 1) := by decide +kernel
theorem dL_law_402 : decode cL_law 402 = .ok (.iadd, 1) := by decide +kernel
theorem dL_law_403 : decode cL_law 403 = .ok (.iaload, 1) := by decide +kernel
theorem dL_law_404 : decode cL_law 404 = .ok (.invokevirtual 46, 3) := by decide +kernel
theorem dL_law_407 : decode cL_law 407 = .ok (.if_icmp .eq 411, 3) := by decide +kernel
theorem dL_law_410 : decode cL_law 410 = .ok (.iconst 0, 1) := by decide +kernel
theorem dL_law_411 : decode cL_law 411 = .ok (.ireturn, 1) := by decide +kernel
theorem dL_law_412 : decode cL_law 412 = .ok (.aload_n 1, 1) := by decide +kernel
theorem dL_law_413 : decode cL_law 413 = .ok (.aload_n 0, 1) := by decide +kernel
theorem dL_law_414 : decode cL_law 414 = .ok (.iload_n 3, 1) := by decide +kernel
theorem dL_law_415 : decode cL_law 415 = .ok (.iconst 1, 1) := by decide +kernel
theorem dL_law_416 : decode cL_law 416 = .ok (.iadd, 1) := by decide +kernel
theorem dL_law_417 : decode cL_law 417 = .ok (.iaload, 1) := by decide +kernel
theorem dL_law_418 : decode cL_law 418 = .ok (.aload_n 0, 1) := by decide +kernel
theorem dL_law_419 : decode cL_law 419 = .ok (.iload_n 3, 1) := by decide +kernel
theorem dL_law_420 : decode cL_law 420 = .ok (.iconst 2, 1) := by decide +kernel
theorem dL_law_421 : decode cL_law 421 = .ok (.iadd, 1) := by decide +kernel
theorem dL_law_422 : decode cL_law 422 = .ok (.iaload, 1) := by decide +kernel
theorem dL_law_423 : decode cL_law 423 = .ok (.invokevirtual 47, 3) := by decide +kernel
theorem dL_law_426 : decode cL_law 426 = .ok (.aload_n 2, 1) := by decide +kernel
theorem dL_law_427 : decode cL_law 427 = .ok (.aload_n 0, 1) := by decide +kernel
theorem dL_law_428 : decode cL_law 428 = .ok (.iload_n 3, 1) := by decide +kernel
theorem dL_law_429 : decode cL_law 429 = .ok (.iconst 1, 1) := by decide +kernel
theorem dL_law_430 : decode cL_law 430 = .ok (.iadd, 1) := by decide +kernel
theorem dL_law_431 : decode cL_law 431 = .ok (.iaload, 1) := by decide +kernel
theorem dL_law_432 : decode cL_law 432 = .ok (.aload_n 0, 1) := by decide +kernel
theorem dL_law_433 : decode cL_law 433 = .ok (.iload_n 3, 1) := by decide +kernel
theorem dL_law_434 : decode cL_law 434 = .ok (.iconst 2, 1) := by decide +kernel
theorem dL_law_435 : decode cL_law 435 = .ok (.iadd, 1) := by decide +kernel
theorem dL_law_436 : decode cL_law 436 = .ok (.iaload, 1) := by decide +kernel
theorem dL_law_437 : decode cL_law 437 = .ok (.invokevirtual 50, 3) := by decide +kernel
theorem dL_law_440 : decode cL_law 440 = .ok (.if_icmp .eq 378, 3) := by decide +kernel
theorem dL_law_443 : decode cL_law 443 = .ok (.iconst 0, 1) := by decide +kernel
theorem dL_law_444 : decode cL_law 444 = .ok (.ireturn, 1) := by decide +kernel
theorem dL_law_445 : decode cL_law 445 = .ok (.aload_n 1, 1) := by decide +kernel
theorem dL_law_446 : decode cL_law 446 = .ok (.aload_n 0, 1) := by decide +kernel
theorem dL_law_447 : decode cL_law 447 = .ok (.iload_n 3, 1) := by decide +kernel
theorem dL_law_448 : decode cL_law 448 = .ok (.iconst 1, 1) := by decide +kernel
theorem dL_law_449 : decode cL_law 449 = .ok (.iadd, 1) := by decide +kernel
theorem dL_law_450 : decode cL_law 450 = .ok (.iaload, 1) := by decide +kernel
theorem dL_law_451 : decode cL_law 451 = .ok (.invokevirtual 51, 3) := by decide +kernel
theorem dL_law_454 : decode cL_law 454 = .ok (.aload_n 2, 1) := by decide +kernel
theorem dL_law_455 : decode cL_law 455 = .ok (.aload_n 0, 1) := by decide +kernel
theorem dL_law_456 : decode cL_law 456 = .ok (.iload_n 3, 1) := by decide +kernel
theorem dL_law_457 : decode cL_law 457 = .ok (.iconst 1, 1) := by decide +kernel
theorem dL_law_458 : decode cL_law 458 = .ok (.iadd, 1) := by decide +kernel
theorem dL_law_459 : decode cL_law 459 = .ok (.iaload, 1) := by decide +kernel
theorem dL_law_460 : decode cL_law 460 = .ok (.invokevirtual 55, 3) := by decide +kernel
theorem dL_law_463 : decode cL_law 463 = .ok (.if_icmp .eq 355, 3) := by decide +kernel
theorem dL_law_466 : decode cL_law 466 = .ok (.iconst 0, 1) := by decide +kernel
theorem dL_law_467 : decode cL_law 467 = .ok (.ireturn, 1) := by decide +kernel
theorem dL_law_468 : decode cL_law 468 = .ok (.aload_n 1, 1) := by decide +kernel
theorem dL_law_469 : decode cL_law 469 = .ok (.aload_n 0, 1) := by decide +kernel
theorem dL_law_470 : decode cL_law 470 = .ok (.iload_n 3, 1) := by decide +kernel
theorem dL_law_471 : decode cL_law 471 = .ok (.iconst 1, 1) := by decide +kernel
theorem dL_law_472 : decode cL_law 472 = .ok (.iadd, 1) := by decide +kernel
theorem dL_law_473 : decode cL_law 473 = .ok (.iaload, 1) := by decide +kernel
theorem dL_law_474 : decode cL_law 474 = .ok (.aload_n 0, 1) := by decide +kernel
theorem dL_law_475 : decode cL_law 475 = .ok (.iload_n 3, 1) := by decide +kernel
theorem dL_law_476 : decode cL_law 476 = .ok (.iconst 2, 1) := by decide +kernel
theorem dL_law_477 : decode cL_law 477 = .ok (.iadd, 1) := by decide +kernel
theorem dL_law_478 : decode cL_law 478 = .ok (.iaload, 1) := by decide +kernel
theorem dL_law_479 : decode cL_law 479 = .ok (.aload_n 0, 1) := by decide +kernel
theorem dL_law_480 : decode cL_law 480 = .ok (.iload_n 3, 1) := by decide +kernel
theorem dL_law_481 : decode cL_law 481 = .ok (.iconst 3, 1) := by decide +kernel
theorem dL_law_482 : decode cL_law 482 = .ok (.iadd, 1) := by decide +kernel
theorem dL_law_483 : decode cL_law 483 = .ok (.iaload, 1) := by decide +kernel
theorem dL_law_484 : decode cL_law 484 = .ok (.aload_n 0, 1) := by decide +kernel
theorem dL_law_485 : decode cL_law 485 = .ok (.iload_n 3, 1) := by decide +kernel
theorem dL_law_486 : decode cL_law 486 = .ok (.iconst 4, 1) := by decide +kernel
theorem dL_law_487 : decode cL_law 487 = .ok (.iadd, 1) := by decide +kernel
theorem dL_law_488 : decode cL_law 488 = .ok (.iaload, 1) := by decide +kernel
theorem dL_law_489 : decode cL_law 489 = .ok (.invokevirtual 56, 3) := by decide +kernel
theorem dL_law_492 : decode cL_law 492 = .ok (.aload_n 2, 1) := by decide +kernel
theorem dL_law_493 : decode cL_law 493 = .ok (.aload_n 0, 1) := by decide +kernel
theorem dL_law_494 : decode cL_law 494 = .ok (.iload_n 3, 1) := by decide +kernel
theorem dL_law_495 : decode cL_law 495 = .ok (.iconst 1, 1) := by decide +kernel
theorem dL_law_496 : decode cL_law 496 = .ok (.iadd, 1) := by decide +kernel
theorem dL_law_497 : decode cL_law 497 = .ok (.iaload, 1) := by decide +kernel
theorem dL_law_498 : decode cL_law 498 = .ok (.aload_n 0, 1) := by decide +kernel
theorem dL_law_499 : decode cL_law 499 = .ok (.iload_n 3, 1) := by decide +kernel
theorem dL_law_500 : decode cL_law 500 = .ok (.iconst 2, 1) := by decide +kernel
theorem dL_law_501 : decode cL_law 501 = .ok (.iadd, 1) := by decide +kernel
theorem dL_law_502 : decode cL_law 502 = .ok (.iaload, 1) := by decide +kernel
theorem dL_law_503 : decode cL_law 503 = .ok (.aload_n 0, 1) := by decide +kernel
theorem dL_law_504 : decode cL_law 504 = .ok (.iload_n 3, 1) := by decide +kernel
theorem dL_law_505 : decode cL_law 505 = .ok (.iconst 3, 1) := by decide +kernel
theorem dL_law_506 : decode cL_law 506 = .ok (.iadd, 1) := by decide +kernel
theorem dL_law_507 : decode cL_law 507 = .ok (.iaload, 1) := by decide +kernel
theorem dL_law_508 : decode cL_law 508 = .ok (.aload_n 0, 1) := by decide +kernel
theorem dL_law_509 : decode cL_law 509 = .ok (.iload_n 3, 1) := by decide +kernel
theorem dL_law_510 : decode cL_law 510 = .ok (.iconst 4, 1) := by decide +kernel
theorem dL_law_511 : decode cL_law 511 = .ok (.iadd, 1) := by decide +kernel
theorem dL_law_512 : decode cL_law 512 = .ok (.iaload, 1) := by decide +kernel
theorem dL_law_513 : decode cL_law 513 = .ok (.invokevirtual 60, 3) := by decide +kernel
theorem dL_law_516 : decode cL_law 516 = .ok (.if_icmp .eq 302, 3) := by decide +kernel
theorem dL_law_519 : decode cL_law 519 = .ok (.iconst 0, 1) := by decide +kernel
theorem dL_law_520 : decode cL_law 520 = .ok (.ireturn, 1) := by decide +kernel
theorem dL_law_521 : decode cL_law 521 = .ok (.aload_n 1, 1) := by decide +kernel
theorem dL_law_522 : decode cL_law 522 = .ok (.aload_n 0, 1) := by decide +kernel
theorem dL_law_523 : decode cL_law 523 = .ok (.iload_n 3, 1) := by decide +kernel
theorem dL_law_524 : decode cL_law 524 = .ok (.iconst 1, 1) := by decide +kernel
theorem dL_law_525 : decode cL_law 525 = .ok (.iadd, 1) := by decide +kernel
theorem dL_law_526 : decode cL_law 526 = .ok (.iaload, 1) := by decide +kernel
theorem dL_law_527 : decode cL_law 527 = .ok (.aload_n 0, 1) := by decide +kernel
theorem dL_law_528 : decode cL_law 528 = .ok (.iload_n 3, 1) := by decide +kernel
theorem dL_law_529 : decode cL_law 529 = .ok (.iconst 2, 1) := by decide +kernel
theorem dL_law_530 : decode cL_law 530 = .ok (.iadd, 1) := by decide +kernel
theorem dL_law_531 : decode cL_law 531 = .ok (.iaload, 1) := by decide +kernel
theorem dL_law_532 : decode cL_law 532 = .ok (.aload_n 0, 1) := by decide +kernel
theorem dL_law_533 : decode cL_law 533 = .ok (.iload_n 3, 1) := by decide +kernel
theorem dL_law_534 : decode cL_law 534 = .ok (.iconst 3, 1) := by decide +kernel
theorem dL_law_535 : decode cL_law 535 = .ok (.iadd, 1) := by decide +kernel
theorem dL_law_536 : decode cL_law 536 = .ok (.iaload, 1) := by decide +kernel
theorem dL_law_537 : decode cL_law 537 = .ok (.aload_n 0, 1) := by decide +kernel
theorem dL_law_538 : decode cL_law 538 = .ok (.iload_n 3, 1) := by decide +kernel
theorem dL_law_539 : decode cL_law 539 = .ok (.iconst 4, 1) := by decide +kernel
theorem dL_law_540 : decode cL_law 540 = .ok (.iadd, 1) := by decide +kernel
theorem dL_law_541 : decode cL_law 541 = .ok (.iaload, 1) := by decide +kernel
theorem dL_law_542 : decode cL_law 542 = .ok (.invokevirtual 61, 3) := by decide +kernel
theorem dL_law_545 : decode cL_law 545 = .ok (.aload_n 2, 1) := by decide +kernel
theorem dL_law_546 : decode cL_law 546 = .ok (.aload_n 0, 1) := by decide +kernel
theorem dL_law_547 : decode cL_law 547 = .ok (.iload_n 3, 1) := by decide +kernel
theorem dL_law_548 : decode cL_law 548 = .ok (.iconst 1, 1) := by decide +kernel
theorem dL_law_549 : decode cL_law 549 = .ok (.iadd, 1) := by decide +kernel
theorem dL_law_550 : decode cL_law 550 = .ok (.iaload, 1) := by decide +kernel
theorem dL_law_551 : decode cL_law 551 = .ok (.aload_n 0, 1) := by decide +kernel
theorem dL_law_552 : decode cL_law 552 = .ok (.iload_n 3, 1) := by decide +kernel
theorem dL_law_553 : decode cL_law 553 = .ok (.iconst 2, 1) := by decide +kernel
theorem dL_law_554 : decode cL_law 554 = .ok (.iadd, 1) := by decide +kernel
theorem dL_law_555 : decode cL_law 555 = .ok (.iaload, 1) := by decide +kernel
theorem dL_law_556 : decode cL_law 556 = .ok (.aload_n 0, 1) := by decide +kernel
theorem dL_law_557 : decode cL_law 557 = .ok (.iload_n 3, 1) := by decide +kernel
theorem dL_law_558 : decode cL_law 558 = .ok (.iconst 3, 1) := by decide +kernel
theorem dL_law_559 : decode cL_law 559 = .ok (.iadd, 1) := by decide +kernel
theorem dL_law_560 : decode cL_law 560 = .ok (.iaload, 1) := by decide +kernel
theorem dL_law_561 : decode cL_law 561 = .ok (.aload_n 0, 1) := by decide +kernel
theorem dL_law_562 : decode cL_law 562 = .ok (.iload_n 3, 1) := by decide +kernel
theorem dL_law_563 : decode cL_law 563 = .ok (.iconst 4, 1) := by decide +kernel
theorem dL_law_564 : decode cL_law 564 = .ok (.iadd, 1) := by decide +kernel
theorem dL_law_565 : decode cL_law 565 = .ok (.iaload, 1) := by decide +kernel
theorem dL_law_566 : decode cL_law 566 = .ok (.invokevirtual 64, 3) := by decide +kernel
theorem dL_law_569 : decode cL_law 569 = .ok (.if_icmp .eq 249, 3) := by decide +kernel
theorem dL_law_572 : decode cL_law 572 = .ok (.iconst 0, 1) := by decide +kernel
theorem dL_law_573 : decode cL_law 573 = .ok (.ireturn, 1) := by decide +kernel
theorem dL_law_574 : decode cL_law 574 = .ok (.aload_n 1, 1) := by decide +kernel
theorem dL_law_575 : decode cL_law 575 = .ok (.aload_n 0, 1) := by decide +kernel
theorem dL_law_576 : decode cL_law 576 = .ok (.iload_n 3, 1) := by decide +kernel
theorem dL_law_577 : decode cL_law 577 = .ok (.iconst 1, 1) := by decide +kernel
theorem dL_law_578 : decode cL_law 578 = .ok (.iadd, 1) := by decide +kernel
theorem dL_law_579 : decode cL_law 579 = .ok (.iaload, 1) := by decide +kernel
theorem dL_law_580 : decode cL_law 580 = .ok (.aload_n 0, 1) := by decide +kernel
theorem dL_law_581 : decode cL_law 581 = .ok (.iload_n 3, 1) := by decide +kernel
theorem dL_law_582 : decode cL_law 582 = .ok (.iconst 2, 1) := by decide +kernel
theorem dL_law_583 : decode cL_law 583 = .ok (.iadd, 1) := by decide +kernel
theorem dL_law_584 : decode cL_law 584 = .ok (.iaload, 1) := by decide +kernel
theorem dL_law_585 : decode cL_law 585 = .ok (.invokevirtual 65, 3) := by decide +kernel
theorem dL_law_588 : decode cL_law 588 = .ok (.aload_n 2, 1) := by decide +kernel
theorem dL_law_589 : decode cL_law 589 = .ok (.aload_n 0, 1) := by decide +kernel
theorem dL_law_590 : decode cL_law 590 = .ok (.iload_n 3, 1) := by decide +kernel
theorem dL_law_591 : decode cL_law 591 = .ok (.iconst 1, 1) := by decide +kernel
theorem dL_law_592 : decode cL_law 592 = .ok (.iadd, 1) := by decide +kernel
theorem dL_law_593 : decode cL_law 593 = .ok (.iaload, 1) := by decide +kernel
theorem dL_law_594 : decode cL_law 594 = .ok (.aload_n 0, 1) := by decide +kernel
theorem dL_law_595 : decode cL_law 595 = .ok (.iload_n 3, 1) := by decide +kernel
theorem dL_law_596 : decode cL_law 596 = .ok (.iconst 2, 1) := by decide +kernel
theorem dL_law_597 : decode cL_law 597 = .ok (.iadd, 1) := by decide +kernel
theorem dL_law_598 : decode cL_law 598 = .ok (.iaload, 1) := by decide +kernel
theorem dL_law_599 : decode cL_law 599 = .ok (.invokevirtual 68, 3) := by decide +kernel
theorem dL_law_602 : decode cL_law 602 = .ok (.if_icmp .eq 216, 3) := by decide +kernel
theorem dL_law_605 : decode cL_law 605 = .ok (.iconst 0, 1) := by decide +kernel
theorem dL_law_606 : decode cL_law 606 = .ok (.ireturn, 1) := by decide +kernel
theorem dL_law_607 : decode cL_law 607 = .ok (.aload_n 1, 1) := by decide +kernel
theorem dL_law_608 : decode cL_law 608 = .ok (.aload_n 0, 1) := by decide +kernel
theorem dL_law_609 : decode cL_law 609 = .ok (.iload_n 3, 1) := by decide +kernel
theorem dL_law_610 : decode cL_law 610 = .ok (.iconst 1, 1) := by decide +kernel
theorem dL_law_611 : decode cL_law 611 = .ok (.iadd, 1) := by decide +kernel
theorem dL_law_612 : decode cL_law 612 = .ok (.iaload, 1) := by decide +kernel
theorem dL_law_613 : decode cL_law 613 = .ok (.aload_n 0, 1) := by decide +kernel
theorem dL_law_614 : decode cL_law 614 = .ok (.iload_n 3, 1) := by decide +kernel
theorem dL_law_615 : decode cL_law 615 = .ok (.iconst 2, 1) := by decide +kernel
theorem dL_law_616 : decode cL_law 616 = .ok (.iadd, 1) := by decide +kernel
theorem dL_law_617 : decode cL_law 617 = .ok (.iaload, 1) := by decide +kernel
theorem dL_law_618 : decode cL_law 618 = .ok (.aload_n 0, 1) := by decide +kernel
theorem dL_law_619 : decode cL_law 619 = .ok (.iload_n 3, 1) := by decide +kernel
theorem dL_law_620 : decode cL_law 620 = .ok (.iconst 3, 1) := by decide +kernel
theorem dL_law_621 : decode cL_law 621 = .ok (.iadd, 1) := by decide +kernel
theorem dL_law_622 : decode cL_law 622 = .ok (.iaload, 1) := by decide +kernel
theorem dL_law_623 : decode cL_law 623 = .ok (.invokevirtual 69, 3) := by decide +kernel
theorem dL_law_626 : decode cL_law 626 = .ok (.aload_n 2, 1) := by decide +kernel
theorem dL_law_627 : decode cL_law 627 = .ok (.aload_n 0, 1) := by decide +kernel
theorem dL_law_628 : decode cL_law 628 = .ok (.iload_n 3, 1) := by decide +kernel
theorem dL_law_629 : decode cL_law 629 = .ok (.iconst 1, 1) := by decide +kernel
theorem dL_law_630 : decode cL_law 630 = .ok (.iadd, 1) := by decide +kernel
theorem dL_law_631 : decode cL_law 631 = .ok (.iaload, 1) := by decide +kernel
theorem dL_law_632 : decode cL_law 632 = .ok (.aload_n 0, 1) := by decide +kernel
theorem dL_law_633 : decode cL_law 633 = .ok (.iload_n 3, 1) := by decide +kernel
theorem dL_law_634 : decode cL_law 634 = .ok (.iconst 2, 1) := by decide +kernel
theorem dL_law_635 : decode cL_law 635 = .ok (.iadd, 1) := by decide +kernel
theorem dL_law_636 : decode cL_law 636 = .ok (.iaload, 1) := by decide +kernel
theorem dL_law_637 : decode cL_law 637 = .ok (.aload_n 0, 1) := by decide +kernel
theorem dL_law_638 : decode cL_law 638 = .ok (.iload_n 3, 1) := by decide +kernel
theorem dL_law_639 : decode cL_law 639 = .ok (.iconst 3, 1) := by decide +kernel
theorem dL_law_640 : decode cL_law 640 = .ok (.iadd, 1) := by decide +kernel
theorem dL_law_641 : decode cL_law 641 = .ok (.iaload, 1) := by decide +kernel
theorem dL_law_642 : decode cL_law 642 = .ok (.invokevirtual 72, 3) := by decide +kernel
theorem dL_law_645 : decode cL_law 645 = .ok (.if_icmp .eq 173, 3) := by decide +kernel
theorem dL_law_648 : decode cL_law 648 = .ok (.iconst 0, 1) := by decide +kernel
theorem dL_law_649 : decode cL_law 649 = .ok (.ireturn, 1) := by decide +kernel
theorem dL_law_650 : decode cL_law 650 = .ok (.aload_n 1, 1) := by decide +kernel
theorem dL_law_651 : decode cL_law 651 = .ok (.invokevirtual 73, 3) := by decide +kernel
theorem dL_law_654 : decode cL_law 654 = .ok (.aload_n 2, 1) := by decide +kernel
theorem dL_law_655 : decode cL_law 655 = .ok (.invokevirtual 77, 3) := by decide +kernel
theorem dL_law_658 : decode cL_law 658 = .ok (.if_icmp .eq 160, 3) := by decide +kernel
theorem dL_law_661 : decode cL_law 661 = .ok (.iconst 0, 1) := by decide +kernel
theorem dL_law_662 : decode cL_law 662 = .ok (.ireturn, 1) := by decide +kernel
theorem dL_law_663 : decode cL_law 663 = .ok (.aload_n 1, 1) := by decide +kernel
theorem dL_law_664 : decode cL_law 664 = .ok (.aload_n 0, 1) := by decide +kernel
theorem dL_law_665 : decode cL_law 665 = .ok (.iload_n 3, 1) := by decide +kernel
theorem dL_law_666 : decode cL_law 666 = .ok (.iconst 1, 1) := by decide +kernel
theorem dL_law_667 : decode cL_law 667 = .ok (.iadd, 1) := by decide +kernel
theorem dL_law_668 : decode cL_law 668 = .ok (.iaload, 1) := by decide +kernel
theorem dL_law_669 : decode cL_law 669 = .ok (.aload_n 0, 1) := by decide +kernel
theorem dL_law_670 : decode cL_law 670 = .ok (.iload_n 3, 1) := by decide +kernel
theorem dL_law_671 : decode cL_law 671 = .ok (.iconst 2, 1) := by decide +kernel
theorem dL_law_672 : decode cL_law 672 = .ok (.iadd, 1) := by decide +kernel
theorem dL_law_673 : decode cL_law 673 = .ok (.iaload, 1) := by decide +kernel
theorem dL_law_674 : decode cL_law 674 = .ok (.invokevirtual 78, 3) := by decide +kernel
theorem dL_law_677 : decode cL_law 677 = .ok (.aload_n 2, 1) := by decide +kernel
theorem dL_law_678 : decode cL_law 678 = .ok (.aload_n 0, 1) := by decide +kernel
theorem dL_law_679 : decode cL_law 679 = .ok (.iload_n 3, 1) := by decide +kernel
theorem dL_law_680 : decode cL_law 680 = .ok (.iconst 1, 1) := by decide +kernel
theorem dL_law_681 : decode cL_law 681 = .ok (.iadd, 1) := by decide +kernel
theorem dL_law_682 : decode cL_law 682 = .ok (.iaload, 1) := by decide +kernel
theorem dL_law_683 : decode cL_law 683 = .ok (.aload_n 0, 1) := by decide +kernel
theorem dL_law_684 : decode cL_law 684 = .ok (.iload_n 3, 1) := by decide +kernel
theorem dL_law_685 : decode cL_law 685 = .ok (.iconst 2, 1) := by decide +kernel
theorem dL_law_686 : decode cL_law 686 = .ok (.iadd, 1) := by decide +kernel
theorem dL_law_687 : decode cL_law 687 = .ok (.iaload, 1) := by decide +kernel
theorem dL_law_688 : decode cL_law 688 = .ok (.invokevirtual 81, 3) := by decide +kernel
theorem dL_law_691 : decode cL_law 691 = .ok (.if_icmp .eq 127, 3) := by decide +kernel
theorem dL_law_694 : decode cL_law 694 = .ok (.iconst 0, 1) := by decide +kernel
theorem dL_law_695 : decode cL_law 695 = .ok (.ireturn, 1) := by decide +kernel
theorem dL_law_696 : decode cL_law 696 = .ok (.aload_n 1, 1) := by decide +kernel
theorem dL_law_697 : decode cL_law 697 = .ok (.aload_n 0, 1) := by decide +kernel
theorem dL_law_698 : decode cL_law 698 = .ok (.iload_n 3, 1) := by decide +kernel
theorem dL_law_699 : decode cL_law 699 = .ok (.iconst 1, 1) := by decide +kernel
theorem dL_law_700 : decode cL_law 700 = .ok (.iadd, 1) := by decide +kernel
theorem dL_law_701 : decode cL_law 701 = .ok (.iaload, 1) := by decide +kernel
theorem dL_law_702 : decode cL_law 702 = .ok (.aload_n 0, 1) := by decide +kernel
theorem dL_law_703 : decode cL_law 703 = .ok (.iload_n 3, 1) := by decide +kernel
theorem dL_law_704 : decode cL_law 704 = .ok (.iconst 2, 1) := by decide +kernel
theorem dL_law_705 : decode cL_law 705 = .ok (.iadd, 1) := by decide +kernel
theorem dL_law_706 : decode cL_law 706 = .ok (.iaload, 1) := by decide +kernel
theorem dL_law_707 : decode cL_law 707 = .ok (.invokevirtual 82, 3) := by decide +kernel
theorem dL_law_710 : decode cL_law 710 = .ok (.aload_n 2, 1) := by decide +kernel
theorem dL_law_711 : decode cL_law 711 = .ok (.aload_n 0, 1) := by decide +kernel
theorem dL_law_712 : decode cL_law 712 = .ok (.iload_n 3, 1) := by decide +kernel
theorem dL_law_713 : decode cL_law 713 = .ok (.iconst 1, 1) := by decide +kernel
theorem dL_law_714 : decode cL_law 714 = .ok (.iadd, 1) := by decide +kernel
theorem dL_law_715 : decode cL_law 715 = .ok (.iaload, 1) := by decide +kernel
theorem dL_law_716 : decode cL_law 716 = .ok (.aload_n 0, 1) := by decide +kernel
theorem dL_law_717 : decode cL_law 717 = .ok (.iload_n 3, 1) := by decide +kernel
theorem dL_law_718 : decode cL_law 718 = .ok (.iconst 2, 1) := by decide +kernel
theorem dL_law_719 : decode cL_law 719 = .ok (.iadd, 1) := by decide +kernel
theorem dL_law_720 : decode cL_law 720 = .ok (.iaload, 1) := by decide +kernel
theorem dL_law_721 : decode cL_law 721 = .ok (.invokevirtual 85, 3) := by decide +kernel
theorem dL_law_724 : decode cL_law 724 = .ok (.if_icmp .eq 94, 3) := by decide +kernel
theorem dL_law_727 : decode cL_law 727 = .ok (.iconst 0, 1) := by decide +kernel
theorem dL_law_728 : decode cL_law 728 = .ok (.ireturn, 1) := by decide +kernel
theorem dL_law_729 : decode cL_law 729 = .ok (.aload_n 1, 1) := by decide +kernel
theorem dL_law_730 : decode cL_law 730 = .ok (.aload_n 0, 1) := by decide +kernel
theorem dL_law_731 : decode cL_law 731 = .ok (.iload_n 3, 1) := by decide +kernel
theorem dL_law_732 : decode cL_law 732 = .ok (.iconst 1, 1) := by decide +kernel
theorem dL_law_733 : decode cL_law 733 = .ok (.iadd, 1) := by decide +kernel
theorem dL_law_734 : decode cL_law 734 = .ok (.iaload, 1) := by decide +kernel
theorem dL_law_735 : decode cL_law 735 = .ok (.aload_n 0, 1) := by decide +kernel
theorem dL_law_736 : decode cL_law 736 = .ok (.iload_n 3, 1) := by decide +kernel
theorem dL_law_737 : decode cL_law 737 = .ok (.iconst 2, 1) := by decide +kernel
theorem dL_law_738 : decode cL_law 738 = .ok (.iadd, 1) := by decide +kernel
theorem dL_law_739 : decode cL_law 739 = .ok (.iaload, 1) := by decide +kernel
theorem dL_law_740 : decode cL_law 740 = .ok (.invokevirtual 86, 3) := by decide +kernel
theorem dL_law_743 : decode cL_law 743 = .ok (.aload_n 2, 1) := by decide +kernel
theorem dL_law_744 : decode cL_law 744 = .ok (.aload_n 0, 1) := by decide +kernel
theorem dL_law_745 : decode cL_law 745 = .ok (.iload_n 3, 1) := by decide +kernel
theorem dL_law_746 : decode cL_law 746 = .ok (.iconst 1, 1) := by decide +kernel
theorem dL_law_747 : decode cL_law 747 = .ok (.iadd, 1) := by decide +kernel
theorem dL_law_748 : decode cL_law 748 = .ok (.iaload, 1) := by decide +kernel
theorem dL_law_749 : decode cL_law 749 = .ok (.aload_n 0, 1) := by decide +kernel
theorem dL_law_750 : decode cL_law 750 = .ok (.iload_n 3, 1) := by decide +kernel
theorem dL_law_751 : decode cL_law 751 = .ok (.iconst 2, 1) := by decide +kernel
theorem dL_law_752 : decode cL_law 752 = .ok (.iadd, 1) := by decide +kernel
theorem dL_law_753 : decode cL_law 753 = .ok (.iaload, 1) := by decide +kernel
theorem dL_law_754 : decode cL_law 754 = .ok (.invokevirtual 89, 3) := by decide +kernel
theorem dL_law_757 : decode cL_law 757 = .ok (.if_icmp .eq 61, 3) := by decide +kernel
theorem dL_law_760 : decode cL_law 760 = .ok (.iconst 0, 1) := by decide +kernel
theorem dL_law_761 : decode cL_law 761 = .ok (.ireturn, 1) := by decide +kernel
theorem dL_law_762 : decode cL_law 762 = .ok (.aload_n 1, 1) := by decide +kernel
theorem dL_law_763 : decode cL_law 763 = .ok (.aload_n 0, 1) := by decide +kernel
theorem dL_law_764 : decode cL_law 764 = .ok (.iload_n 3, 1) := by decide +kernel
theorem dL_law_765 : decode cL_law 765 = .ok (.iconst 1, 1) := by decide +kernel
theorem dL_law_766 : decode cL_law 766 = .ok (.iadd, 1) := by decide +kernel
theorem dL_law_767 : decode cL_law 767 = .ok (.iaload, 1) := by decide +kernel
theorem dL_law_768 : decode cL_law 768 = .ok (.aload_n 0, 1) := by decide +kernel
theorem dL_law_769 : decode cL_law 769 = .ok (.iload_n 3, 1) := by decide +kernel
theorem dL_law_770 : decode cL_law 770 = .ok (.iconst 2, 1) := by decide +kernel
theorem dL_law_771 : decode cL_law 771 = .ok (.iadd, 1) := by decide +kernel
theorem dL_law_772 : decode cL_law 772 = .ok (.iaload, 1) := by decide +kernel
theorem dL_law_773 : decode cL_law 773 = .ok (.invokevirtual 90, 3) := by decide +kernel
theorem dL_law_776 : decode cL_law 776 = .ok (.aload_n 2, 1) := by decide +kernel
theorem dL_law_777 : decode cL_law 777 = .ok (.aload_n 0, 1) := by decide +kernel
theorem dL_law_778 : decode cL_law 778 = .ok (.iload_n 3, 1) := by decide +kernel
theorem dL_law_779 : decode cL_law 779 = .ok (.iconst 1, 1) := by decide +kernel
theorem dL_law_780 : decode cL_law 780 = .ok (.iadd, 1) := by decide +kernel
theorem dL_law_781 : decode cL_law 781 = .ok (.iaload, 1) := by decide +kernel
theorem dL_law_782 : decode cL_law 782 = .ok (.aload_n 0, 1) := by decide +kernel
theorem dL_law_783 : decode cL_law 783 = .ok (.iload_n 3, 1) := by decide +kernel
theorem dL_law_784 : decode cL_law 784 = .ok (.iconst 2, 1) := by decide +kernel
theorem dL_law_785 : decode cL_law 785 = .ok (.iadd, 1) := by decide +kernel
theorem dL_law_786 : decode cL_law 786 = .ok (.iaload, 1) := by decide +kernel
theorem dL_law_787 : decode cL_law 787 = .ok (.invokevirtual 93, 3) := by decide +kernel
theorem dL_law_790 : decode cL_law 790 = .ok (.if_icmp .eq 28, 3) := by decide +kernel
theorem dL_law_793 : decode cL_law 793 = .ok (.iconst 0, 1) := by decide +kernel
theorem dL_law_794 : decode cL_law 794 = .ok (.ireturn, 1) := by decide +kernel
theorem dL_law_795 : decode cL_law 795 = .ok (.aload_n 1, 1) := by decide +kernel
theorem dL_law_796 : decode cL_law 796 = .ok (.aload_n 0, 1) := by decide +kernel
theorem dL_law_797 : decode cL_law 797 = .ok (.iload_n 3, 1) := by decide +kernel
theorem dL_law_798 : decode cL_law 798 = .ok (.iconst 1, 1) := by decide +kernel
theorem dL_law_799 : decode cL_law 799 = .ok (.iadd, 1) := by decide +kernel
theorem dL_law_800 : decode cL_law 800 = .ok (.iaload, 1) := by decide +kernel
theorem dL_law_801 : decode cL_law 801 = .ok (.invokevirtual 94, 3) := by decide +kernel
theorem dL_law_804 : decode cL_law 804 = .ok (.aload_n 2, 1) := by decide +kernel
theorem dL_law_805 : decode cL_law 805 = .ok (.aload_n 0, 1) := by decide +kernel
theorem dL_law_806 : decode cL_law 806 = .ok (.iload_n 3, 1) := by decide +kernel
theorem dL_law_807 : decode cL_law 807 = .ok (.iconst 1, 1) := by decide +kernel
theorem dL_law_808 : decode cL_law 808 = .ok (.iadd, 1) := by decide +kernel
theorem dL_law_809 : decode cL_law 809 = .ok (.iaload, 1) := by decide +kernel
theorem dL_law_810 : decode cL_law 810 = .ok (.invokevirtual 97, 3) := by decide +kernel
theorem dL_law_813 : decode cL_law 813 = .ok (.if_icmp .eq 5, 3) := by decide +kernel
theorem dL_law_816 : decode cL_law 816 = .ok (.iconst 0, 1) := by decide +kernel
theorem dL_law_817 : decode cL_law 817 = .ok (.ireturn, 1) := by decide +kernel
theorem dL_law_818 : decode cL_law 818 = .ok (.iinc 3 5, 3) := by decide +kernel
theorem dL_law_821 : decode cL_law 821 = .ok (.goto (-803), 3) := by decide +kernel
theorem dL_law_824 : decode cL_law 824 = .ok (.iconst 1, 1) := by decide +kernel
theorem dL_law_825 : decode cL_law 825 = .ok (.ireturn, 1) := by decide +kernel
