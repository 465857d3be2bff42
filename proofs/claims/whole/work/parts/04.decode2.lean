theorem dX1_shorten_82 : decode cX1_shorten 82 = .ok (.if_icmp .eq 15, 3) := by decide +kernel
theorem dX1_shorten_85 : decode cX1_shorten 85 = .ok (.iload 6, 2) := by decide +kernel
theorem dX1_shorten_87 : decode cX1_shorten 87 = .ok (.aload_n 0, 1) := by decide +kernel
theorem dX1_shorten_88 : decode cX1_shorten 88 = .ok (.getfield 24, 3) := by decide +kernel
theorem dX1_shorten_91 : decode cX1_shorten 91 = .ok (.iload 5, 2) := by decide +kernel
theorem dX1_shorten_93 : decode cX1_shorten 93 = .ok (.iaload, 1) := by decide +kernel
theorem dX1_shorten_94 : decode cX1_shorten 94 = .ok (.if_icmp .ge 14, 3) := by decide +kernel
theorem dX1_shorten_97 : decode cX1_shorten 97 = .ok (.aload_n 0, 1) := by decide +kernel
theorem dX1_shorten_98 : decode cX1_shorten 98 = .ok (.getfield 24, 3) := by decide +kernel
theorem dX1_shorten_101 : decode cX1_shorten 101 = .ok (.iload 5, 2) := by decide +kernel
theorem dX1_shorten_103 : decode cX1_shorten 103 = .ok (.iload 6, 2) := by decide +kernel
theorem dX1_shorten_105 : decode cX1_shorten 105 = .ok (.iastore, 1) := by decide +kernel
theorem dX1_shorten_106 : decode cX1_shorten 106 = .ok (.iconst 1, 1) := by decide +kernel
theorem dX1_shorten_107 : decode cX1_shorten 107 = .ok (.istore_n 2, 1) := by decide +kernel
theorem dX1_shorten_108 : decode cX1_shorten 108 = .ok (.iinc 3 1, 3) := by decide +kernel
theorem dX1_shorten_111 : decode cX1_shorten 111 = .ok (.goto (-107), 3) := by decide +kernel
theorem dX1_shorten_114 : decode cX1_shorten 114 = .ok (.iload_n 2, 1) := by decide +kernel
theorem dX1_shorten_115 : decode cX1_shorten 115 = .ok (.ireturn, 1) := by decide +kernel
theorem dX1_findNextSide_0 : decode cX1_findNextSide 0 = .ok (.iload_n 1, 1) := by decide +kernel
theorem dX1_findNextSide_1 : decode cX1_findNextSide 1 = .ok (.aload_n 0, 1) := by decide +kernel
theorem dX1_findNextSide_2 : decode cX1_findNextSide 2 = .ok (.getfield 21, 3) := by decide +kernel
theorem dX1_findNextSide_5 : decode cX1_findNextSide 5 = .ok (.iload_n 2, 1) := by decide +kernel
theorem dX1_findNextSide_6 : decode cX1_findNextSide 6 = .ok (.iaload, 1) := by decide +kernel
theorem dX1_findNextSide_7 : decode cX1_findNextSide 7 = .ok (.if_icmp .eq 18, 3) := by decide +kernel
theorem dX1_findNextSide_10 : decode cX1_findNextSide 10 = .ok (.aload_n 0, 1) := by decide +kernel
theorem dX1_findNextSide_11 : decode cX1_findNextSide 11 = .ok (.getfield 24, 3) := by decide +kernel
theorem dX1_findNextSide_14 : decode cX1_findNextSide 14 = .ok (.iload_n 1, 1) := by decide +kernel
theorem dX1_findNextSide_15 : decode cX1_findNextSide 15 = .ok (.iload_n 2, 1) := by decide +kernel
theorem dX1_findNextSide_16 : decode cX1_findNextSide 16 = .ok (.invokestatic 45, 3) := by decide +kernel
theorem dX1_findNextSide_19 : decode cX1_findNextSide 19 = .ok (.iaload, 1) := by decide +kernel
theorem dX1_findNextSide_20 : decode cX1_findNextSide 20 = .ok (.bipush (-9), 2) := by decide +kernel
theorem dX1_findNextSide_22 : decode cX1_findNextSide 22 = .ok (.if_icmp .ne 5, 3) := by decide +kernel
theorem dX1_findNextSide_25 : decode cX1_findNextSide 25 = .ok (.iconst (-1), 1) := by decide +kernel
theorem dX1_findNextSide_26 : decode cX1_findNextSide 26 = .ok (.ireturn, 1) := by decide +kernel
theorem dX1_findNextSide_27 : decode cX1_findNextSide 27 = .ok (.iconst (-1), 1) := by decide +kernel
theorem dX1_findNextSide_28 : decode cX1_findNextSide 28 = .ok (.istore_n 3, 1) := by decide +kernel
theorem dX1_findNextSide_29 : decode cX1_findNextSide 29 = .ok (.iconst 0, 1) := by decide +kernel
theorem dX1_findNextSide_30 : decode cX1_findNextSide 30 = .ok (.istore 4, 2) := by decide +kernel
theorem dX1_findNextSide_32 : decode cX1_findNextSide 32 = .ok (.iload 4, 2) := by decide +kernel
theorem dX1_findNextSide_34 : decode cX1_findNextSide 34 = .ok (.iconst 2, 1) := by decide +kernel
theorem dX1_findNextSide_35 : decode cX1_findNextSide 35 = .ok (.aload_n 0, 1) := by decide +kernel
theorem dX1_findNextSide_36 : decode cX1_findNextSide 36 = .ok (.getfield 30, 3) := by decide +kernel
theorem dX1_findNextSide_39 : decode cX1_findNextSide 39 = .ok (.imul, 1) := by decide +kernel
theorem dX1_findNextSide_40 : decode cX1_findNextSide 40 = .ok (.if_icmp .ge 58, 3) := by decide +kernel
theorem dX1_findNextSide_43 : decode cX1_findNextSide 43 = .ok (.aload_n 0, 1) := by decide +kernel
theorem dX1_findNextSide_44 : decode cX1_findNextSide 44 = .ok (.getfield 9, 3) := by decide +kernel
theorem dX1_findNextSide_47 : decode cX1_findNextSide 47 = .ok (.iload 4, 2) := by decide +kernel
theorem dX1_findNextSide_49 : decode cX1_findNextSide 49 = .ok (.iaload, 1) := by decide +kernel
theorem dX1_findNextSide_50 : decode cX1_findNextSide 50 = .ok (.iload_n 1, 1) := by decide +kernel
theorem dX1_findNextSide_51 : decode cX1_findNextSide 51 = .ok (.if_icmp .ne 41, 3) := by decide +kernel
theorem dX1_findNextSide_54 : decode cX1_findNextSide 54 = .ok (.aload_n 0, 1) := by decide +kernel
theorem dX1_findNextSide_55 : decode cX1_findNextSide 55 = .ok (.iload 4, 2) := by decide +kernel
theorem dX1_findNextSide_57 : decode cX1_findNextSide 57 = .ok (.iload_n 2, 1) := by decide +kernel
theorem dX1_findNextSide_58 : decode cX1_findNextSide 58 = .ok (.invokevirtual 58, 3) := by decide +kernel
theorem dX1_findNextSide_61 : decode cX1_findNextSide 61 = .ok (.ifCond .eq 31, 3) := by decide +kernel
theorem dX1_findNextSide_64 : decode cX1_findNextSide 64 = .ok (.iload_n 3, 1) := by decide +kernel
theorem dX1_findNextSide_65 : decode cX1_findNextSide 65 = .ok (.iconst (-1), 1) := by decide +kernel
theorem dX1_findNextSide_66 : decode cX1_findNextSide 66 = .ok (.if_icmp .eq 23, 3) := by decide +kernel
theorem dX1_findNextSide_69 : decode cX1_findNextSide 69 = .ok (.aload_n 0, 1) := by decide +kernel
theorem dX1_findNextSide_70 : decode cX1_findNextSide 70 = .ok (.getfield 9, 3) := by decide +kernel
theorem dX1_findNextSide_73 : decode cX1_findNextSide 73 = .ok (.iload 4, 2) := by decide +kernel
theorem dX1_findNextSide_75 : decode cX1_findNextSide 75 = .ok (.iconst 1, 1) := by decide +kernel
theorem dX1_findNextSide_76 : decode cX1_findNextSide 76 = .ok (.ixor, 1) := by decide +kernel
theorem dX1_findNextSide_77 : decode cX1_findNextSide 77 = .ok (.iaload, 1) := by decide +kernel
theorem dX1_findNextSide_78 : decode cX1_findNextSide 78 = .ok (.aload_n 0, 1) := by decide +kernel
theorem dX1_findNextSide_79 : decode cX1_findNextSide 79 = .ok (.getfield 9, 3) := by decide +kernel
theorem dX1_findNextSide_82 : decode cX1_findNextSide 82 = .ok (.iload_n 3, 1) := by decide +kernel
theorem dX1_findNextSide_83 : decode cX1_findNextSide 83 = .ok (.iconst 1, 1) := by decide +kernel
theorem dX1_findNextSide_84 : decode cX1_findNextSide 84 = .ok (.ixor, 1) := by decide +kernel
theorem dX1_findNextSide_85 : decode cX1_findNextSide 85 = .ok (.iaload, 1) := by decide +kernel
theorem dX1_findNextSide_86 : decode cX1_findNextSide 86 = .ok (.if_icmp .ge 6, 3) := by decide +kernel
theorem dX1_findNextSide_89 : decode cX1_findNextSide 89 = .ok (.iload 4, 2) := by decide +kernel
theorem dX1_findNextSide_91 : decode cX1_findNextSide 91 = .ok (.istore_n 3, 1) := by decide +kernel
theorem dX1_findNextSide_92 : decode cX1_findNextSide 92 = .ok (.iinc 4 1, 3) := by decide +kernel
theorem dX1_findNextSide_95 : decode cX1_findNextSide 95 = .ok (.goto (-63), 3) := by decide +kernel
theorem dX1_findNextSide_98 : decode cX1_findNextSide 98 = .ok (.iload_n 3, 1) := by decide +kernel
theorem dX1_findNextSide_99 : decode cX1_findNextSide 99 = .ok (.ireturn, 1) := by decide +kernel
theorem dX1_leadsOn_0 : decode cX1_leadsOn 0 = .ok (.aload_n 0, 1) := by decide +kernel
theorem dX1_leadsOn_1 : decode cX1_leadsOn 1 = .ok (.getfield 24, 3) := by decide +kernel
theorem dX1_leadsOn_4 : decode cX1_leadsOn 4 = .ok (.aload_n 0, 1) := by decide +kernel
theorem dX1_leadsOn_5 : decode cX1_leadsOn 5 = .ok (.getfield 9, 3) := by decide +kernel
theorem dX1_leadsOn_8 : decode cX1_leadsOn 8 = .ok (.iload_n 1, 1) := by decide +kernel
theorem dX1_leadsOn_9 : decode cX1_leadsOn 9 = .ok (.iconst 1, 1) := by decide +kernel
theorem dX1_leadsOn_10 : decode cX1_leadsOn 10 = .ok (.ixor, 1) := by decide +kernel
theorem dX1_leadsOn_11 : decode cX1_leadsOn 11 = .ok (.iaload, 1) := by decide +kernel
theorem dX1_leadsOn_12 : decode cX1_leadsOn 12 = .ok (.iload_n 2, 1) := by decide +kernel
theorem dX1_leadsOn_13 : decode cX1_leadsOn 13 = .ok (.invokestatic 45, 3) := by decide +kernel
theorem dX1_leadsOn_16 : decode cX1_leadsOn 16 = .ok (.iaload, 1) := by decide +kernel
theorem dX1_leadsOn_17 : decode cX1_leadsOn 17 = .ok (.istore_n 3, 1) := by decide +kernel
theorem dX1_leadsOn_18 : decode cX1_leadsOn 18 = .ok (.aload_n 0, 1) := by decide +kernel
theorem dX1_leadsOn_19 : decode cX1_leadsOn 19 = .ok (.iload_n 1, 1) := by decide +kernel
theorem dX1_leadsOn_20 : decode cX1_leadsOn 20 = .ok (.invokevirtual 55, 3) := by decide +kernel
theorem dX1_leadsOn_23 : decode cX1_leadsOn 23 = .ok (.ifCond .eq 41, 3) := by decide +kernel
theorem dX1_leadsOn_26 : decode cX1_leadsOn 26 = .ok (.iload_n 3, 1) := by decide +kernel
theorem dX1_leadsOn_27 : decode cX1_leadsOn 27 = .ok (.bipush (-9), 2) := by decide +kernel
theorem dX1_leadsOn_29 : decode cX1_leadsOn 29 = .ok (.if_icmp .eq 35, 3) := by decide +kernel
theorem dX1_leadsOn_32 : decode cX1_leadsOn 32 = .ok (.iload_n 3, 1) := by decide +kernel
theorem dX1_leadsOn_33 : decode cX1_leadsOn 33 = .ok (.aload_n 0, 1) := by decide +kernel
theorem dX1_leadsOn_34 : decode cX1_leadsOn 34 = .ok (.getfield 15, 3) := by decide +kernel
theorem dX1_leadsOn_37 : decode cX1_leadsOn 37 = .ok (.iload_n 1, 1) := by decide +kernel
theorem dX1_leadsOn_38 : decode cX1_leadsOn 38 = .ok (.iconst 1, 1) := by decide +kernel
theorem dX1_leadsOn_39 : decode cX1_leadsOn 39 = .ok (.ishr, 1) := by decide +kernel
theorem dX1_leadsOn_40 : decode cX1_leadsOn 40 = .ok (.iaload, 1) := by decide +kernel
theorem dX1_leadsOn_41 : decode cX1_leadsOn 41 = .ok (.iadd, 1) := by decide +kernel
theorem dX1_leadsOn_42 : decode cX1_leadsOn 42 = .ok (.aload_n 0, 1) := by decide +kernel
theorem dX1_leadsOn_43 : decode cX1_leadsOn 43 = .ok (.getfield 24, 3) := by decide +kernel
theorem dX1_leadsOn_46 : decode cX1_leadsOn 46 = .ok (.aload_n 0, 1) := by decide +kernel
theorem dX1_leadsOn_47 : decode cX1_leadsOn 47 = .ok (.getfield 9, 3) := by decide +kernel
theorem dX1_leadsOn_50 : decode cX1_leadsOn 50 = .ok (.iload_n 1, 1) := by decide +kernel
theorem dX1_leadsOn_51 : decode cX1_leadsOn 51 = .ok (.iaload, 1) := by decide +kernel
theorem dX1_leadsOn_52 : decode cX1_leadsOn 52 = .ok (.iload_n 2, 1) := by decide +kernel
theorem dX1_leadsOn_53 : decode cX1_leadsOn 53 = .ok (.invokestatic 45, 3) := by decide +kernel
theorem dX1_leadsOn_56 : decode cX1_leadsOn 56 = .ok (.iaload, 1) := by decide +kernel
theorem dX1_leadsOn_57 : decode cX1_leadsOn 57 = .ok (.if_icmp .ne 7, 3) := by decide +kernel
theorem dX1_leadsOn_60 : decode cX1_leadsOn 60 = .ok (.iconst 1, 1) := by decide +kernel
theorem dX1_leadsOn_61 : decode cX1_leadsOn 61 = .ok (.goto 4, 3) := by decide +kernel
theorem dX1_leadsOn_64 : decode cX1_leadsOn 64 = .ok (.iconst 0, 1) := by decide +kernel
theorem dX1_leadsOn_65 : decode cX1_leadsOn 65 = .ok (.ireturn, 1) := by decide +kernel
theorem dX2_init_0 : decode cX2_init 0 = .ok (.aload_n 0, 1) := by decide +kernel
theorem dX2_init_1 : decode cX2_init 1 = .ok (.invokespecial 3, 3) := by decide +kernel
theorem dX2_init_4 : decode cX2_init 4 = .ok (.aload_n 0, 1) := by decide +kernel
theorem dX2_init_5 : decode cX2_init 5 = .ok (.bipush 15, 2) := by decide +kernel
theorem dX2_init_7 : decode cX2_init 7 = .ok (.newarray .int, 2) := by decide +kernel
theorem dX2_init_9 : decode cX2_init 9 = .ok (.putfield 9, 3) := by decide +kernel
theorem dX2_init_12 : decode cX2_init 12 = .ok (.aload_n 0, 1) := by decide +kernel
theorem dX2_init_13 : decode cX2_init 13 = .ok (.bipush 15, 2) := by decide +kernel
theorem dX2_init_15 : decode cX2_init 15 = .ok (.newarray .int, 2) := by decide +kernel
theorem dX2_init_17 : decode cX2_init 17 = .ok (.putfield 15, 3) := by decide +kernel
theorem dX2_init_20 : decode cX2_init 20 = .ok (.aload_n 0, 1) := by decide +kernel
theorem dX2_init_21 : decode cX2_init 21 = .ok (.aload_n 1, 1) := by decide +kernel
theorem dX2_init_22 : decode cX2_init 22 = .ok (.putfield 18, 3) := by decide +kernel
theorem dX2_init_25 : decode cX2_init 25 = .ok (.aload_n 0, 1) := by decide +kernel
theorem dX2_init_26 : decode cX2_init 26 = .ok (.aload_n 2, 1) := by decide +kernel
theorem dX2_init_27 : decode cX2_init 27 = .ok (.putfield 22, 3) := by decide +kernel
theorem dX2_init_30 : decode cX2_init 30 = .ok (.return_, 1) := by decide +kernel
theorem dX2_walk_0 : decode cX2_walk 0 = .ok (.iload_n 1, 1) := by decide +kernel
theorem dX2_walk_1 : decode cX2_walk 1 = .ok (.istore_n 3, 1) := by decide +kernel
theorem dX2_walk_2 : decode cX2_walk 2 = .ok (.iconst 0, 1) := by decide +kernel
theorem dX2_walk_3 : decode cX2_walk 3 = .ok (.istore 4, 2) := by decide +kernel
theorem dX2_walk_5 : decode cX2_walk 5 = .ok (.iconst (-1), 1) := by decide +kernel
theorem dX2_walk_6 : decode cX2_walk 6 = .ok (.istore 5, 2) := by decide +kernel
theorem dX2_walk_8 : decode cX2_walk 8 = .ok (.iconst 0, 1) := by decide +kernel
theorem dX2_walk_9 : decode cX2_walk 9 = .ok (.istore 6, 2) := by decide +kernel
theorem dX2_walk_11 : decode cX2_walk 11 = .ok (.iload 6, 2) := by decide +kernel
theorem dX2_walk_13 : decode cX2_walk 13 = .ok (.bipush 14, 2) := by decide +kernel
theorem dX2_walk_15 : decode cX2_walk 15 = .ok (.if_icmp .gt 166, 3) := by decide +kernel
theorem dX2_walk_18 : decode cX2_walk 18 = .ok (.aload_n 0, 1) := by decide +kernel
theorem dX2_walk_19 : decode cX2_walk 19 = .ok (.getfield 9, 3) := by decide +kernel
theorem dX2_walk_22 : decode cX2_walk 22 = .ok (.iload 6, 2) := by decide +kernel
theorem dX2_walk_24 : decode cX2_walk 24 = .ok (.iload_n 3, 1) := by decide +kernel
theorem dX2_walk_25 : decode cX2_walk 25 = .ok (.iastore, 1) := by decide +kernel
theorem dX2_walk_26 : decode cX2_walk 26 = .ok (.aload_n 0, 1) := by decide +kernel
theorem dX2_walk_27 : decode cX2_walk 27 = .ok (.getfield 15, 3) := by decide +kernel
theorem dX2_walk_30 : decode cX2_walk 30 = .ok (.iload 6, 2) := by decide +kernel
theorem dX2_walk_32 : decode cX2_walk 32 = .ok (.iload 4, 2) := by decide +kernel
theorem dX2_walk_34 : decode cX2_walk 34 = .ok (.iastore, 1) := by decide +kernel
theorem dX2_walk_35 : decode cX2_walk 35 = .ok (.aload_n 0, 1) := by decide +kernel
theorem dX2_walk_36 : decode cX2_walk 36 = .ok (.iload 6, 2) := by decide +kernel
theorem dX2_walk_38 : decode cX2_walk 38 = .ok (.iconst 1, 1) := by decide +kernel
theorem dX2_walk_39 : decode cX2_walk 39 = .ok (.iadd, 1) := by decide +kernel
theorem dX2_walk_40 : decode cX2_walk 40 = .ok (.putfield 26, 3) := by decide +kernel
theorem dX2_walk_43 : decode cX2_walk 43 = .ok (.iload 4, 2) := by decide +kernel
theorem dX2_walk_45 : decode cX2_walk 45 = .ok (.ifCond .ne 7, 3) := by decide +kernel
theorem dX2_walk_48 : decode cX2_walk 48 = .ok (.iload_n 2, 1) := by decide +kernel
theorem dX2_walk_49 : decode cX2_walk 49 = .ok (.goto 15, 3) := by decide +kernel
theorem dX2_walk_52 : decode cX2_walk 52 = .ok (.aload_n 0, 1) := by decide +kernel
theorem dX2_walk_53 : decode cX2_walk 53 = .ok (.getfield 22, 3) := by decide +kernel
theorem dX2_walk_56 : decode cX2_walk 56 = .ok (.iload_n 3, 1) := by decide +kernel
theorem dX2_walk_57 : decode cX2_walk 57 = .ok (.iload 5, 2) := by decide +kernel
theorem dX2_walk_59 : decode cX2_walk 59 = .ok (.iload 4, 2) := by decide +kernel
theorem dX2_walk_61 : decode cX2_walk 61 = .ok (.invokevirtual 30, 3) := by decide +kernel
theorem dX2_walk_64 : decode cX2_walk 64 = .ok (.istore 7, 2) := by decide +kernel
theorem dX2_walk_66 : decode cX2_walk 66 = .ok (.iload 7, 2) := by decide +kernel
theorem dX2_walk_68 : decode cX2_walk 68 = .ok (.iconst (-1), 1) := by decide +kernel
theorem dX2_walk_69 : decode cX2_walk 69 = .ok (.if_icmp .ne 5, 3) := by decide +kernel
theorem dX2_walk_72 : decode cX2_walk 72 = .ok (.iconst 2, 1) := by decide +kernel
theorem dX2_walk_73 : decode cX2_walk 73 = .ok (.ireturn, 1) := by decide +kernel
theorem dX2_walk_74 : decode cX2_walk 74 = .ok (.aload_n 0, 1) := by decide +kernel
theorem dX2_walk_75 : decode cX2_walk 75 = .ok (.getfield 18, 3) := by decide +kernel
theorem dX2_walk_78 : decode cX2_walk 78 = .ok (.getfield 36, 3) := by decide +kernel
theorem dX2_walk_81 : decode cX2_walk 81 = .ok (.iload 7, 2) := by decide +kernel
theorem dX2_walk_83 : decode cX2_walk 83 = .ok (.iaload, 1) := by decide +kernel
theorem dX2_walk_84 : decode cX2_walk 84 = .ok (.iload_n 3, 1) := by decide +kernel
theorem dX2_walk_85 : decode cX2_walk 85 = .ok (.if_icmp .ne 5, 3) := by decide +kernel
theorem dX2_walk_88 : decode cX2_walk 88 = .ok (.iconst 0, 1) := by decide +kernel
theorem dX2_walk_89 : decode cX2_walk 89 = .ok (.ireturn, 1) := by decide +kernel
theorem dX2_walk_90 : decode cX2_walk 90 = .ok (.aload_n 0, 1) := by decide +kernel
theorem dX2_walk_91 : decode cX2_walk 91 = .ok (.getfield 18, 3) := by decide +kernel
theorem dX2_walk_94 : decode cX2_walk 94 = .ok (.getfield 41, 3) := by decide +kernel
theorem dX2_walk_97 : decode cX2_walk 97 = .ok (.iload_n 3, 1) := by decide +kernel
theorem dX2_walk_98 : decode cX2_walk 98 = .ok (.iload 7, 2) := by decide +kernel
theorem dX2_walk_100 : decode cX2_walk 100 = .ok (.invokestatic 44, 3) := by decide +kernel
theorem dX2_walk_103 : decode cX2_walk 103 = .ok (.iaload, 1) := by decide +kernel
theorem dX2_walk_104 : decode cX2_walk 104 = .ok (.istore 8, 2) := by decide +kernel
theorem dX2_walk_106 : decode cX2_walk 106 = .ok (.iload 8, 2) := by decide +kernel
theorem dX2_walk_108 : decode cX2_walk 108 = .ok (.iconst (-1), 1) := by decide +kernel
theorem dX2_walk_109 : decode cX2_walk 109 = .ok (.if_icmp .ne 5, 3) := by decide +kernel
theorem dX2_walk_112 : decode cX2_walk 112 = .ok (.iconst 1, 1) := by decide +kernel
theorem dX2_walk_113 : decode cX2_walk 113 = .ok (.ireturn, 1) := by decide +kernel
theorem dX2_walk_114 : decode cX2_walk 114 = .ok (.aload_n 0, 1) := by decide +kernel
theorem dX2_walk_115 : decode cX2_walk 115 = .ok (.getfield 22, 3) := by decide +kernel
theorem dX2_walk_118 : decode cX2_walk 118 = .ok (.iload_n 3, 1) := by decide +kernel
theorem dX2_walk_119 : decode cX2_walk 119 = .ok (.iload 7, 2) := by decide +kernel
theorem dX2_walk_121 : decode cX2_walk 121 = .ok (.invokevirtual 48, 3) := by decide +kernel
theorem dX2_walk_124 : decode cX2_walk 124 = .ok (.istore 9, 2) := by decide +kernel
theorem dX2_walk_126 : decode cX2_walk 126 = .ok (.iload 9, 2) := by decide +kernel
theorem dX2_walk_128 : decode cX2_walk 128 = .ok (.ifCond .ne 10, 3) := by decide +kernel
theorem dX2_walk_131 : decode cX2_walk 131 = .ok (.iload 4, 2) := by decide +kernel
theorem dX2_walk_133 : decode cX2_walk 133 = .ok (.ifCond .eq 5, 3) := by decide +kernel
theorem dX2_walk_136 : decode cX2_walk 136 = .ok (.iconst 3, 1) := by decide +kernel
theorem dX2_walk_137 : decode cX2_walk 137 = .ok (.ireturn, 1) := by decide +kernel
theorem dX2_walk_138 : decode cX2_walk 138 = .ok (.iload 9, 2) := by decide +kernel
theorem dX2_walk_140 : decode cX2_walk 140 = .ok (.invokestatic 51, 3) := by decide +kernel
theorem dX2_walk_143 : decode cX2_walk 143 = .ok (.iconst 3, 1) := by decide +kernel
theorem dX2_walk_144 : decode cX2_walk 144 = .ok (.if_icmp .ne 7, 3) := by decide +kernel
theorem dX2_walk_147 : decode cX2_walk 147 = .ok (.iconst 0, 1) := by decide +kernel
theorem dX2_walk_148 : decode cX2_walk 148 = .ok (.goto 8, 3) := by decide +kernel
theorem dX2_walk_151 : decode cX2_walk 151 = .ok (.iload 9, 2) := by decide +kernel
theorem dX2_walk_153 : decode cX2_walk 153 = .ok (.invokestatic 51, 3) := by decide +kernel
theorem dX2_walk_156 : decode cX2_walk 156 = .ok (.istore 4, 2) := by decide +kernel
theorem dX2_walk_158 : decode cX2_walk 158 = .ok (.iload 8, 2) := by decide +kernel
theorem dX2_walk_160 : decode cX2_walk 160 = .ok (.iconst 1, 1) := by decide +kernel
theorem dX2_walk_161 : decode cX2_walk 161 = .ok (.ixor, 1) := by decide +kernel
theorem dX2_walk_162 : decode cX2_walk 162 = .ok (.istore 5, 2) := by decide +kernel
theorem dX2_walk_164 : decode cX2_walk 164 = .ok (.aload_n 0, 1) := by decide +kernel
theorem dX2_walk_165 : decode cX2_walk 165 = .ok (.getfield 18, 3) := by decide +kernel
theorem dX2_walk_168 : decode cX2_walk 168 = .ok (.getfield 55, 3) := by decide +kernel
theorem dX2_walk_171 : decode cX2_walk 171 = .ok (.iload 5, 2) := by decide +kernel
theorem dX2_walk_173 : decode cX2_walk 173 = .ok (.iaload, 1) := by decide +kernel
theorem dX2_walk_174 : decode cX2_walk 174 = .ok (.istore_n 3, 1) := by decide +kernel
theorem dX2_walk_175 : decode cX2_walk 175 = .ok (.iinc 6 1, 3) := by decide +kernel
theorem dX2_walk_178 : decode cX2_walk 178 = .ok (.goto (-167), 3) := by decide +kernel
theorem dX2_walk_181 : decode cX2_walk 181 = .ok (.iconst 4, 1) := by decide +kernel
theorem dX2_walk_182 : decode cX2_walk 182 = .ok (.ireturn, 1) := by decide +kernel
theorem dX2_labelledBetween_0 : decode cX2_labelledBetween 0 = .ok (.iconst 1, 1) := by decide +kernel
theorem dX2_labelledBetween_1 : decode cX2_labelledBetween 1 = .ok (.istore_n 1, 1) := by decide +kernel
theorem dX2_labelledBetween_2 : decode cX2_labelledBetween 2 = .ok (.iload_n 1, 1) := by decide +kernel
theorem dX2_labelledBetween_3 : decode cX2_labelledBetween 3 = .ok (.aload_n 0, 1) := by decide +kernel
theorem dX2_labelledBetween_4 : decode cX2_labelledBetween 4 = .ok (.getfield 26, 3) := by decide +kernel
theorem dX2_labelledBetween_7 : decode cX2_labelledBetween 7 = .ok (.iconst 1, 1) := by decide +kernel
theorem dX2_labelledBetween_8 : decode cX2_labelledBetween 8 = .ok (.isub, 1) := by decide +kernel
theorem dX2_labelledBetween_9 : decode cX2_labelledBetween 9 = .ok (.if_icmp .ge 20, 3) := by decide +kernel
theorem dX2_labelledBetween_12 : decode cX2_labelledBetween 12 = .ok (.aload_n 0, 1) := by decide +kernel
theorem dX2_labelledBetween_13 : decode cX2_labelledBetween 13 = .ok (.getfield 15, 3) := by decide +kernel
theorem dX2_labelledBetween_16 : decode cX2_labelledBetween 16 = .ok (.iload_n 1, 1) := by decide +kernel
theorem dX2_labelledBetween_17 : decode cX2_labelledBetween 17 = .ok (.iaload, 1) := by decide +kernel
theorem dX2_labelledBetween_18 : decode cX2_labelledBetween 18 = .ok (.ifCond .ne 5, 3) := by decide +kernel
theorem dX2_labelledBetween_21 : decode cX2_labelledBetween 21 = .ok (.iconst 0, 1) := by decide +kernel
theorem dX2_labelledBetween_22 : decode cX2_labelledBetween 22 = .ok (.ireturn, 1) := by decide +kernel
theorem dX2_labelledBetween_23 : decode cX2_labelledBetween 23 = .ok (.iinc 1 1, 3) := by decide +kernel
theorem dX2_labelledBetween_26 : decode cX2_labelledBetween 26 = .ok (.goto (-24), 3) := by decide +kernel
theorem dX2_labelledBetween_29 : decode cX2_labelledBetween 29 = .ok (.iconst 1, 1) := by decide +kernel
theorem dX2_labelledBetween_30 : decode cX2_labelledBetween 30 = .ok (.ireturn, 1) := by decide +kernel
theorem dX3_init_0 : decode cX3_init 0 = .ok (.aload_n 0, 1) := by decide +kernel
theorem dX3_init_1 : decode cX3_init 1 = .ok (.invokespecial 3, 3) := by decide +kernel
theorem dX3_init_4 : decode cX3_init 4 = .ok (.aload_n 0, 1) := by decide +kernel
theorem dX3_init_5 : decode cX3_init 5 = .ok (.new 9, 3) := by decide +kernel
theorem dX3_init_8 : decode cX3_init 8 = .ok (.dup, 1) := by decide +kernel
theorem dX3_init_9 : decode cX3_init 9 = .ok (.invokespecial 11, 3) := by decide +kernel
theorem dX3_init_12 : decode cX3_init 12 = .ok (.putfield 12, 3) := by decide +kernel
theorem dX3_init_15 : decode cX3_init 15 = .ok (.aload_n 0, 1) := by decide +kernel
theorem dX3_init_16 : decode cX3_init 16 = .ok (.new 16, 3) := by decide +kernel
theorem dX3_init_19 : decode cX3_init 19 = .ok (.dup, 1) := by decide +kernel
theorem dX3_init_20 : decode cX3_init 20 = .ok (.aload_n 0, 1) := by decide +kernel
theorem dX3_init_21 : decode cX3_init 21 = .ok (.getfield 12, 3) := by decide +kernel
theorem dX3_init_24 : decode cX3_init 24 = .ok (.invokespecial 18, 3) := by decide +kernel
theorem dX3_init_27 : decode cX3_init 27 = .ok (.putfield 21, 3) := by decide +kernel
theorem dX3_init_30 : decode cX3_init 30 = .ok (.aload_n 0, 1) := by decide +kernel
theorem dX3_init_31 : decode cX3_init 31 = .ok (.new 25, 3) := by decide +kernel
theorem dX3_init_34 : decode cX3_init 34 = .ok (.dup, 1) := by decide +kernel
theorem dX3_init_35 : decode cX3_init 35 = .ok (.aload_n 0, 1) := by decide +kernel
theorem dX3_init_36 : decode cX3_init 36 = .ok (.getfield 12, 3) := by decide +kernel
theorem dX3_init_39 : decode cX3_init 39 = .ok (.aload_n 0, 1) := by decide +kernel
theorem dX3_init_40 : decode cX3_init 40 = .ok (.getfield 21, 3) := by decide +kernel
theorem dX3_init_43 : decode cX3_init 43 = .ok (.invokespecial 27, 3) := by decide +kernel
theorem dX3_init_46 : decode cX3_init 46 = .ok (.putfield 30, 3) := by decide +kernel
theorem dX3_init_49 : decode cX3_init 49 = .ok (.aload_n 0, 1) := by decide +kernel
theorem dX3_init_50 : decode cX3_init 50 = .ok (.new 25, 3) := by decide +kernel
theorem dX3_init_53 : decode cX3_init 53 = .ok (.dup, 1) := by decide +kernel
theorem dX3_init_54 : decode cX3_init 54 = .ok (.aload_n 0, 1) := by decide +kernel
theorem dX3_init_55 : decode cX3_init 55 = .ok (.getfield 12, 3) := by decide +kernel
theorem dX3_init_58 : decode cX3_init 58 = .ok (.aload_n 0, 1) := by decide +kernel
theorem dX3_init_59 : decode cX3_init 59 = .ok (.getfield 21, 3) := by decide +kernel
theorem dX3_init_62 : decode cX3_init 62 = .ok (.invokespecial 27, 3) := by decide +kernel
theorem dX3_init_65 : decode cX3_init 65 = .ok (.putfield 34, 3) := by decide +kernel
theorem dX3_init_68 : decode cX3_init 68 = .ok (.return_, 1) := by decide +kernel
theorem dX3_link_0 : decode cX3_link 0 = .ok (.iload_n 1, 1) := by decide +kernel
theorem dX3_link_1 : decode cX3_link 1 = .ok (.invokestatic 37, 3) := by decide +kernel
theorem dX3_link_4 : decode cX3_link 4 = .ok (.ifCond .eq 10, 3) := by decide +kernel
theorem dX3_link_7 : decode cX3_link 7 = .ok (.iload_n 2, 1) := by decide +kernel
theorem dX3_link_8 : decode cX3_link 8 = .ok (.invokestatic 37, 3) := by decide +kernel
theorem dX3_link_11 : decode cX3_link 11 = .ok (.ifCond .ne 5, 3) := by decide +kernel
theorem dX3_link_14 : decode cX3_link 14 = .ok (.iconst (-1), 1) := by decide +kernel
theorem dX3_link_15 : decode cX3_link 15 = .ok (.ireturn, 1) := by decide +kernel
theorem dX3_link_16 : decode cX3_link 16 = .ok (.iload_n 3, 1) := by decide +kernel
theorem dX3_link_17 : decode cX3_link 17 = .ok (.invokestatic 41, 3) := by decide +kernel
theorem dX3_link_20 : decode cX3_link 20 = .ok (.ifCond .ne 6, 3) := by decide +kernel
theorem dX3_link_23 : decode cX3_link 23 = .ok (.bipush (-2), 2) := by decide +kernel
theorem dX3_link_25 : decode cX3_link 25 = .ok (.ireturn, 1) := by decide +kernel
theorem dX3_link_26 : decode cX3_link 26 = .ok (.iload_n 1, 1) := by decide +kernel
theorem dX3_link_27 : decode cX3_link 27 = .ok (.iload_n 2, 1) := by decide +kernel
theorem dX3_link_28 : decode cX3_link 28 = .ok (.if_icmp .eq 15, 3) := by decide +kernel
theorem dX3_link_31 : decode cX3_link 31 = .ok (.aload_n 0, 1) := by decide +kernel
theorem dX3_link_32 : decode cX3_link 32 = .ok (.getfield 12, 3) := by decide +kernel
theorem dX3_link_35 : decode cX3_link 35 = .ok (.iload_n 1, 1) := by decide +kernel
theorem dX3_link_36 : decode cX3_link 36 = .ok (.iload_n 2, 1) := by decide +kernel
theorem dX3_link_37 : decode cX3_link 37 = .ok (.invokevirtual 44, 3) := by decide +kernel
theorem dX3_link_40 : decode cX3_link 40 = .ok (.ifCond .eq 6, 3) := by decide +kernel
theorem dX3_link_43 : decode cX3_link 43 = .ok (.bipush (-3), 2) := by decide +kernel
theorem dX3_link_45 : decode cX3_link 45 = .ok (.ireturn, 1) := by decide +kernel
theorem dX3_link_46 : decode cX3_link 46 = .ok (.aload_n 0, 1) := by decide +kernel
theorem dX3_link_47 : decode cX3_link 47 = .ok (.getfield 12, 3) := by decide +kernel
theorem dX3_link_50 : decode cX3_link 50 = .ok (.getfield 48, 3) := by decide +kernel
theorem dX3_link_53 : decode cX3_link 53 = .ok (.bipush 12, 2) := by decide +kernel
theorem dX3_link_55 : decode cX3_link 55 = .ok (.if_icmp .lt 6, 3) := by decide +kernel
theorem dX3_link_58 : decode cX3_link 58 = .ok (.bipush (-4), 2) := by decide +kernel
theorem dX3_link_60 : decode cX3_link 60 = .ok (.ireturn, 1) := by decide +kernel
theorem dX3_link_61 : decode cX3_link 61 = .ok (.aload_n 0, 1) := by decide +kernel
theorem dX3_link_62 : decode cX3_link 62 = .ok (.getfield 12, 3) := by decide +kernel
theorem dX3_link_65 : decode cX3_link 65 = .ok (.iload_n 1, 1) := by decide +kernel
theorem dX3_link_66 : decode cX3_link 66 = .ok (.iload_n 2, 1) := by decide +kernel
theorem dX3_link_67 : decode cX3_link 67 = .ok (.invokestatic 52, 3) := by decide +kernel
theorem dX3_link_70 : decode cX3_link 70 = .ok (.iload_n 1, 1) := by decide +kernel
theorem dX3_link_71 : decode cX3_link 71 = .ok (.iload_n 2, 1) := by decide +kernel
theorem dX3_link_72 : decode cX3_link 72 = .ok (.invokestatic 58, 3) := by decide +kernel
theorem dX3_link_75 : decode cX3_link 75 = .ok (.iload_n 3, 1) := by decide +kernel
theorem dX3_link_76 : decode cX3_link 76 = .ok (.invokevirtual 61, 3) := by decide +kernel
theorem dX3_link_79 : decode cX3_link 79 = .ok (.ireturn, 1) := by decide +kernel
theorem dX3_cost_0 : decode cX3_cost 0 = .ok (.aload_n 0, 1) := by decide +kernel
theorem dX3_cost_1 : decode cX3_cost 1 = .ok (.getfield 12, 3) := by decide +kernel
theorem dX3_cost_4 : decode cX3_cost 4 = .ok (.iload_n 1, 1) := by decide +kernel
theorem dX3_cost_5 : decode cX3_cost 5 = .ok (.invokevirtual 65, 3) := by decide +kernel
theorem dX3_cost_8 : decode cX3_cost 8 = .ok (.ifCond .ne 5, 3) := by decide +kernel
theorem dX3_cost_11 : decode cX3_cost 11 = .ok (.iconst (-1), 1) := by decide +kernel
theorem dX3_cost_12 : decode cX3_cost 12 = .ok (.ireturn, 1) := by decide +kernel
theorem dX3_cost_13 : decode cX3_cost 13 = .ok (.iload_n 2, 1) := by decide +kernel
theorem dX3_cost_14 : decode cX3_cost 14 = .ok (.invokestatic 41, 3) := by decide +kernel
theorem dX3_cost_17 : decode cX3_cost 17 = .ok (.ifCond .ne 6, 3) := by decide +kernel
theorem dX3_cost_20 : decode cX3_cost 20 = .ok (.bipush (-2), 2) := by decide +kernel
theorem dX3_cost_22 : decode cX3_cost 22 = .ok (.ireturn, 1) := by decide +kernel
theorem dX3_cost_23 : decode cX3_cost 23 = .ok (.aload_n 0, 1) := by decide +kernel
theorem dX3_cost_24 : decode cX3_cost 24 = .ok (.getfield 12, 3) := by decide +kernel
theorem dX3_cost_27 : decode cX3_cost 27 = .ok (.getfield 68, 3) := by decide +kernel
theorem dX3_cost_30 : decode cX3_cost 30 = .ok (.iload_n 1, 1) := by decide +kernel
theorem dX3_cost_31 : decode cX3_cost 31 = .ok (.iaload, 1) := by decide +kernel
theorem dX3_cost_32 : decode cX3_cost 32 = .ok (.istore_n 3, 1) := by decide +kernel
theorem dX3_cost_33 : decode cX3_cost 33 = .ok (.aload_n 0, 1) := by decide +kernel
theorem dX3_cost_34 : decode cX3_cost 34 = .ok (.getfield 12, 3) := by decide +kernel
theorem dX3_cost_37 : decode cX3_cost 37 = .ok (.iload_n 1, 1) := by decide +kernel
theorem dX3_cost_38 : decode cX3_cost 38 = .ok (.iload_n 2, 1) := by decide +kernel
theorem dX3_cost_39 : decode cX3_cost 39 = .ok (.invokevirtual 72, 3) := by decide +kernel
theorem dX3_cost_42 : decode cX3_cost 42 = .ok (.iload_n 3, 1) := by decide +kernel
theorem dX3_cost_43 : decode cX3_cost 43 = .ok (.ireturn, 1) := by decide +kernel
theorem dX3_up_0 : decode cX3_up 0 = .ok (.aload_n 0, 1) := by decide +kernel
theorem dX3_up_1 : decode cX3_up 1 = .ok (.getfield 12, 3) := by decide +kernel
theorem dX3_up_4 : decode cX3_up 4 = .ok (.iload_n 1, 1) := by decide +kernel
theorem dX3_up_5 : decode cX3_up 5 = .ok (.invokevirtual 65, 3) := by decide +kernel
theorem dX3_up_8 : decode cX3_up 8 = .ok (.ifCond .ne 5, 3) := by decide +kernel
theorem dX3_up_11 : decode cX3_up 11 = .ok (.iconst (-1), 1) := by decide +kernel
theorem dX3_up_12 : decode cX3_up 12 = .ok (.ireturn, 1) := by decide +kernel
theorem dX3_up_13 : decode cX3_up 13 = .ok (.iload_n 2, 1) := by decide +kernel
theorem dX3_up_14 : decode cX3_up 14 = .ok (.invokestatic 76, 3) := by decide +kernel
theorem dX3_up_17 : decode cX3_up 17 = .ok (.ifCond .ne 6, 3) := by decide +kernel
theorem dX3_up_20 : decode cX3_up 20 = .ok (.bipush (-2), 2) := by decide +kernel
theorem dX3_up_22 : decode cX3_up 22 = .ok (.ireturn, 1) := by decide +kernel
theorem dX3_up_23 : decode cX3_up 23 = .ok (.aload_n 0, 1) := by decide +kernel
theorem dX3_up_24 : decode cX3_up 24 = .ok (.getfield 12, 3) := by decide +kernel
theorem dX3_up_27 : decode cX3_up 27 = .ok (.getfield 79, 3) := by decide +kernel
theorem dX3_up_30 : decode cX3_up 30 = .ok (.iload_n 1, 1) := by decide +kernel
theorem dX3_up_31 : decode cX3_up 31 = .ok (.iaload, 1) := by decide +kernel
theorem dX3_up_32 : decode cX3_up 32 = .ok (.istore_n 3, 1) := by decide +kernel
theorem dX3_up_33 : decode cX3_up 33 = .ok (.aload_n 0, 1) := by decide +kernel
theorem dX3_up_34 : decode cX3_up 34 = .ok (.getfield 12, 3) := by decide +kernel
theorem dX3_up_37 : decode cX3_up 37 = .ok (.iload_n 1, 1) := by decide +kernel
theorem dX3_up_38 : decode cX3_up 38 = .ok (.iload_n 2, 1) := by decide +kernel
theorem dX3_up_39 : decode cX3_up 39 = .ok (.invokevirtual 82, 3) := by decide +kernel
theorem dX3_up_42 : decode cX3_up 42 = .ok (.iload_n 2, 1) := by decide +kernel
theorem dX3_up_43 : decode cX3_up 43 = .ok (.ifCond .ne 11, 3) := by decide +kernel
theorem dX3_up_46 : decode cX3_up 46 = .ok (.aload_n 0, 1) := by decide +kernel
theorem dX3_up_47 : decode cX3_up 47 = .ok (.getfield 21, 3) := by decide +kernel
theorem dX3_up_50 : decode cX3_up 50 = .ok (.iload_n 1, 1) := by decide +kernel
theorem dX3_up_51 : decode cX3_up 51 = .ok (.invokevirtual 85, 3) := by decide +kernel
theorem dX3_up_54 : decode cX3_up 54 = .ok (.iload_n 3, 1) := by decide +kernel
theorem dX3_up_55 : decode cX3_up 55 = .ok (.ireturn, 1) := by decide +kernel
theorem dX3_end_0 : decode cX3_end 0 = .ok (.iload_n 1, 1) := by decide +kernel
theorem dX3_end_1 : decode cX3_end 1 = .ok (.invokestatic 89, 3) := by decide +kernel
theorem dX3_end_4 : decode cX3_end 4 = .ok (.ifCond .ne 5, 3) := by decide +kernel
theorem dX3_end_7 : decode cX3_end 7 = .ok (.iconst (-1), 1) := by decide +kernel
theorem dX3_end_8 : decode cX3_end 8 = .ok (.ireturn, 1) := by decide +kernel
theorem dX3_end_9 : decode cX3_end 9 = .ok (.iload_n 2, 1) := by decide +kernel
theorem dX3_end_10 : decode cX3_end 10 = .ok (.invokestatic 37, 3) := by decide +kernel
theorem dX3_end_13 : decode cX3_end 13 = .ok (.ifCond .ne 12, 3) := by decide +kernel
theorem dX3_end_16 : decode cX3_end 16 = .ok (.iload_n 2, 1) := by decide +kernel
theorem dX3_end_17 : decode cX3_end 17 = .ok (.bipush (-9), 2) := by decide +kernel
theorem dX3_end_19 : decode cX3_end 19 = .ok (.if_icmp .eq 6, 3) := by decide +kernel
theorem dX3_end_22 : decode cX3_end 22 = .ok (.bipush (-2), 2) := by decide +kernel
theorem dX3_end_24 : decode cX3_end 24 = .ok (.ireturn, 1) := by decide +kernel
theorem dX3_end_25 : decode cX3_end 25 = .ok (.aload_n 0, 1) := by decide +kernel
theorem dX3_end_26 : decode cX3_end 26 = .ok (.getfield 12, 3) := by decide +kernel
theorem dX3_end_29 : decode cX3_end 29 = .ok (.getfield 92, 3) := by decide +kernel
theorem dX3_end_32 : decode cX3_end 32 = .ok (.iload_n 1, 1) := by decide +kernel
theorem dX3_end_33 : decode cX3_end 33 = .ok (.iaload, 1) := by decide +kernel
theorem dX3_end_34 : decode cX3_end 34 = .ok (.istore_n 3, 1) := by decide +kernel
theorem dX3_end_35 : decode cX3_end 35 = .ok (.aload_n 0, 1) := by decide +kernel
theorem dX3_end_36 : decode cX3_end 36 = .ok (.getfield 12, 3) := by decide +kernel
theorem dX3_end_39 : decode cX3_end 39 = .ok (.iload_n 1, 1) := by decide +kernel
theorem dX3_end_40 : decode cX3_end 40 = .ok (.iload_n 2, 1) := by decide +kernel
theorem dX3_end_41 : decode cX3_end 41 = .ok (.invokevirtual 95, 3) := by decide +kernel
theorem dX3_end_44 : decode cX3_end 44 = .ok (.iload_n 3, 1) := by decide +kernel
theorem dX3_end_45 : decode cX3_end 45 = .ok (.ireturn, 1) := by decide +kernel
theorem dX3_ofLink_0 : decode cX3_ofLink 0 = .ok (.aload_n 0, 1) := by decide +kernel
theorem dX3_ofLink_1 : decode cX3_ofLink 1 = .ok (.getfield 12, 3) := by decide +kernel
theorem dX3_ofLink_4 : decode cX3_ofLink 4 = .ok (.iload_n 1, 1) := by decide +kernel
theorem dX3_ofLink_5 : decode cX3_ofLink 5 = .ok (.invokevirtual 65, 3) := by decide +kernel
theorem dX3_ofLink_8 : decode cX3_ofLink 8 = .ok (.ifCond .ne 5, 3) := by decide +kernel
theorem dX3_ofLink_11 : decode cX3_ofLink 11 = .ok (.iconst (-1), 1) := by decide +kernel
theorem dX3_ofLink_12 : decode cX3_ofLink 12 = .ok (.ireturn, 1) := by decide +kernel
theorem dX3_ofLink_13 : decode cX3_ofLink 13 = .ok (.iload_n 2, 1) := by decide +kernel
theorem dX3_ofLink_14 : decode cX3_ofLink 14 = .ok (.tableswitch 76 0 3 #[30, 42, 56, 66], 30) := by decide +kernel
theorem dX3_ofLink_44 : decode cX3_ofLink 44 = .ok (.aload_n 0, 1) := by decide +kernel
theorem dX3_ofLink_45 : decode cX3_ofLink 45 = .ok (.getfield 12, 3) := by decide +kernel
theorem dX3_ofLink_48 : decode cX3_ofLink 48 = .ok (.getfield 98, 3) := by decide +kernel
theorem dX3_ofLink_51 : decode cX3_ofLink 51 = .ok (.iconst 2, 1) := by decide +kernel
theorem dX3_ofLink_52 : decode cX3_ofLink 52 = .ok (.iload_n 1, 1) := by decide +kernel
theorem dX3_ofLink_53 : decode cX3_ofLink 53 = .ok (.imul, 1) := by decide +kernel
theorem dX3_ofLink_54 : decode cX3_ofLink 54 = .ok (.iaload, 1) := by decide +kernel
theorem dX3_ofLink_55 : decode cX3_ofLink 55 = .ok (.ireturn, 1) := by decide +kernel
theorem dX3_ofLink_56 : decode cX3_ofLink 56 = .ok (.aload_n 0, 1) := by decide +kernel
theorem dX3_ofLink_57 : decode cX3_ofLink 57 = .ok (.getfield 12, 3) := by decide +kernel
theorem dX3_ofLink_60 : decode cX3_ofLink 60 = .ok (.getfield 98, 3) := by decide +kernel
theorem dX3_ofLink_63 : decode cX3_ofLink 63 = .ok (.iconst 2, 1) := by decide +kernel
theorem dX3_ofLink_64 : decode cX3_ofLink 64 = .ok (.iload_n 1, 1) := by decide +kernel
theorem dX3_ofLink_65 : decode cX3_ofLink 65 = .ok (.imul, 1) := by decide +kernel
theorem dX3_ofLink_66 : decode cX3_ofLink 66 = .ok (.iconst 1, 1) := by decide +kernel
theorem dX3_ofLink_67 : decode cX3_ofLink 67 = .ok (.iadd, 1) := by decide +kernel
theorem dX3_ofLink_68 : decode cX3_ofLink 68 = .ok (.iaload, 1) := by decide +kernel
theorem dX3_ofLink_69 : decode cX3_ofLink 69 = .ok (.ireturn, 1) := by decide +kernel
theorem dX3_ofLink_70 : decode cX3_ofLink 70 = .ok (.aload_n 0, 1) := by decide +kernel
theorem dX3_ofLink_71 : decode cX3_ofLink 71 = .ok (.getfield 12, 3) := by decide +kernel
theorem dX3_ofLink_74 : decode cX3_ofLink 74 = .ok (.getfield 68, 3) := by decide +kernel
theorem dX3_ofLink_77 : decode cX3_ofLink 77 = .ok (.iload_n 1, 1) := by decide +kernel
theorem dX3_ofLink_78 : decode cX3_ofLink 78 = .ok (.iaload, 1) := by decide +kernel
theorem dX3_ofLink_79 : decode cX3_ofLink 79 = .ok (.ireturn, 1) := by decide +kernel
theorem dX3_ofLink_80 : decode cX3_ofLink 80 = .ok (.aload_n 0, 1) := by decide +kernel
theorem dX3_ofLink_81 : decode cX3_ofLink 81 = .ok (.getfield 12, 3) := by decide +kernel
theorem dX3_ofLink_84 : decode cX3_ofLink 84 = .ok (.getfield 79, 3) := by decide +kernel
theorem dX3_ofLink_87 : decode cX3_ofLink 87 = .ok (.iload_n 1, 1) := by decide +kernel
theorem dX3_ofLink_88 : decode cX3_ofLink 88 = .ok (.iaload, 1) := by decide +kernel
theorem dX3_ofLink_89 : decode cX3_ofLink 89 = .ok (.ireturn, 1) := by decide +kernel
theorem dX3_ofLink_90 : decode cX3_ofLink 90 = .ok (.bipush (-2), 2) := by decide +kernel
theorem dX3_ofLink_92 : decode cX3_ofLink 92 = .ok (.ireturn, 1) := by decide +kernel
theorem dX3_next_0 : decode cX3_next 0 = .ok (.iload_n 1, 1) := by decide +kernel
theorem dX3_next_1 : decode cX3_next 1 = .ok (.invokestatic 37, 3) := by decide +kernel
theorem dX3_next_4 : decode cX3_next 4 = .ok (.ifCond .eq 10, 3) := by decide +kernel
theorem dX3_next_7 : decode cX3_next 7 = .ok (.iload_n 2, 1) := by decide +kernel
theorem dX3_next_8 : decode cX3_next 8 = .ok (.invokestatic 89, 3) := by decide +kernel
theorem dX3_next_11 : decode cX3_next 11 = .ok (.ifCond .ne 5, 3) := by decide +kernel
theorem dX3_next_14 : decode cX3_next 14 = .ok (.iconst (-1), 1) := by decide +kernel
theorem dX3_next_15 : decode cX3_next 15 = .ok (.ireturn, 1) := by decide +kernel
theorem dX3_next_16 : decode cX3_next 16 = .ok (.aload_n 0, 1) := by decide +kernel
theorem dX3_next_17 : decode cX3_next 17 = .ok (.getfield 12, 3) := by decide +kernel
theorem dX3_next_20 : decode cX3_next 20 = .ok (.iload_n 1, 1) := by decide +kernel
theorem dX3_next_21 : decode cX3_next 21 = .ok (.iload_n 2, 1) := by decide +kernel
theorem dX3_next_22 : decode cX3_next 22 = .ok (.invokevirtual 101, 3) := by decide +kernel
theorem dX3_next_25 : decode cX3_next 25 = .ok (.ireturn, 1) := by decide +kernel
theorem dX3_far_0 : decode cX3_far 0 = .ok (.iload_n 1, 1) := by decide +kernel
theorem dX3_far_1 : decode cX3_far 1 = .ok (.invokestatic 37, 3) := by decide +kernel
theorem dX3_far_4 : decode cX3_far 4 = .ok (.ifCond .eq 10, 3) := by decide +kernel
theorem dX3_far_7 : decode cX3_far 7 = .ok (.iload_n 2, 1) := by decide +kernel
theorem dX3_far_8 : decode cX3_far 8 = .ok (.invokestatic 89, 3) := by decide +kernel
theorem dX3_far_11 : decode cX3_far 11 = .ok (.ifCond .ne 5, 3) := by decide +kernel
theorem dX3_far_14 : decode cX3_far 14 = .ok (.iconst (-1), 1) := by decide +kernel
theorem dX3_far_15 : decode cX3_far 15 = .ok (.ireturn, 1) := by decide +kernel
theorem dX3_far_16 : decode cX3_far 16 = .ok (.aload_n 0, 1) := by decide +kernel
theorem dX3_far_17 : decode cX3_far 17 = .ok (.getfield 12, 3) := by decide +kernel
theorem dX3_far_20 : decode cX3_far 20 = .ok (.getfield 104, 3) := by decide +kernel
theorem dX3_far_23 : decode cX3_far 23 = .ok (.iload_n 1, 1) := by decide +kernel
theorem dX3_far_24 : decode cX3_far 24 = .ok (.iload_n 2, 1) := by decide +kernel
theorem dX3_far_25 : decode cX3_far 25 = .ok (.invokestatic 107, 3) := by decide +kernel
theorem dX3_far_28 : decode cX3_far 28 = .ok (.iaload, 1) := by decide +kernel
theorem dX3_far_29 : decode cX3_far 29 = .ok (.ireturn, 1) := by decide +kernel
theorem dX3_mode_0 : decode cX3_mode 0 = .ok (.iload_n 1, 1) := by decide +kernel
theorem dX3_mode_1 : decode cX3_mode 1 = .ok (.invokestatic 37, 3) := by decide +kernel
theorem dX3_mode_4 : decode cX3_mode 4 = .ok (.ifCond .ne 5, 3) := by decide +kernel
theorem dX3_mode_7 : decode cX3_mode 7 = .ok (.iconst (-1), 1) := by decide +kernel
theorem dX3_mode_8 : decode cX3_mode 8 = .ok (.ireturn, 1) := by decide +kernel
theorem dX3_mode_9 : decode cX3_mode 9 = .ok (.iload_n 2, 1) := by decide +kernel
theorem dX3_mode_10 : decode cX3_mode 10 = .ok (.ifCond .lt 15, 3) := by decide +kernel
theorem dX3_mode_13 : decode cX3_mode 13 = .ok (.iload_n 2, 1) := by decide +kernel
theorem dX3_mode_14 : decode cX3_mode 14 = .ok (.iconst 4, 1) := by decide +kernel
theorem dX3_mode_15 : decode cX3_mode 15 = .ok (.if_icmp .ge 10, 3) := by decide +kernel
theorem dX3_mode_18 : decode cX3_mode 18 = .ok (.iload_n 3, 1) := by decide +kernel
theorem dX3_mode_19 : decode cX3_mode 19 = .ok (.invokestatic 76, 3) := by decide +kernel
theorem dX3_mode_22 : decode cX3_mode 22 = .ok (.ifCond .ne 6, 3) := by decide +kernel
theorem dX3_mode_25 : decode cX3_mode 25 = .ok (.bipush (-2), 2) := by decide +kernel
theorem dX3_mode_27 : decode cX3_mode 27 = .ok (.ireturn, 1) := by decide +kernel
theorem dX3_mode_28 : decode cX3_mode 28 = .ok (.aload_n 0, 1) := by decide +kernel
theorem dX3_mode_29 : decode cX3_mode 29 = .ok (.getfield 21, 3) := by decide +kernel
theorem dX3_mode_32 : decode cX3_mode 32 = .ok (.iload_n 1, 1) := by decide +kernel
theorem dX3_mode_33 : decode cX3_mode 33 = .ok (.iload_n 2, 1) := by decide +kernel
theorem dX3_mode_34 : decode cX3_mode 34 = .ok (.iload_n 3, 1) := by decide +kernel
theorem dX3_mode_35 : decode cX3_mode 35 = .ok (.invokevirtual 110, 3) := by decide +kernel
theorem dX3_mode_38 : decode cX3_mode 38 = .ok (.ireturn, 1) := by decide +kernel
theorem dX3_setting_0 : decode cX3_setting 0 = .ok (.iload_n 1, 1) := by decide +kernel
theorem dX3_setting_1 : decode cX3_setting 1 = .ok (.ifCond .ne 28, 3) := by decide +kernel
theorem dX3_setting_4 : decode cX3_setting 4 = .ok (.iload_n 2, 1) := by decide +kernel
theorem dX3_setting_5 : decode cX3_setting 5 = .ok (.invokestatic 76, 3) := by decide +kernel
theorem dX3_setting_8 : decode cX3_setting 8 = .ok (.ifCond .eq 21, 3) := by decide +kernel
theorem dX3_setting_11 : decode cX3_setting 11 = .ok (.aload_n 0, 1) := by decide +kernel
theorem dX3_setting_12 : decode cX3_setting 12 = .ok (.getfield 21, 3) := by decide +kernel
theorem dX3_setting_15 : decode cX3_setting 15 = .ok (.getfield 113, 3) := by decide +kernel
theorem dX3_setting_18 : decode cX3_setting 18 = .ok (.istore_n 3, 1) := by decide +kernel
theorem dX3_setting_19 : decode cX3_setting 19 = .ok (.aload_n 0, 1) := by decide +kernel
theorem dX3_setting_20 : decode cX3_setting 20 = .ok (.getfield 21, 3) := by decide +kernel
theorem dX3_setting_23 : decode cX3_setting 23 = .ok (.iload_n 2, 1) := by decide +kernel
theorem dX3_setting_24 : decode cX3_setting 24 = .ok (.putfield 113, 3) := by decide +kernel
theorem dX3_setting_27 : decode cX3_setting 27 = .ok (.iload_n 3, 1) := by decide +kernel
theorem dX3_setting_28 : decode cX3_setting 28 = .ok (.ireturn, 1) := by decide +kernel
theorem dX3_setting_29 : decode cX3_setting 29 = .ok (.iload_n 1, 1) := by decide +kernel
theorem dX3_setting_30 : decode cX3_setting 30 = .ok (.iconst 1, 1) := by decide +kernel
theorem dX3_setting_31 : decode cX3_setting 31 = .ok (.if_icmp .ne 32, 3) := by decide +kernel
theorem dX3_setting_34 : decode cX3_setting 34 = .ok (.iload_n 2, 1) := by decide +kernel
theorem dX3_setting_35 : decode cX3_setting 35 = .ok (.iconst 1, 1) := by decide +kernel
theorem dX3_setting_36 : decode cX3_setting 36 = .ok (.if_icmp .lt 27, 3) := by decide +kernel
theorem dX3_setting_39 : decode cX3_setting 39 = .ok (.iload_n 2, 1) := by decide +kernel
theorem dX3_setting_40 : decode cX3_setting 40 = .ok (.bipush 9, 2) := by decide +kernel
theorem dX3_setting_42 : decode cX3_setting 42 = .ok (.if_icmp .gt 21, 3) := by decide +kernel
theorem dX3_setting_45 : decode cX3_setting 45 = .ok (.aload_n 0, 1) := by decide +kernel
theorem dX3_setting_46 : decode cX3_setting 46 = .ok (.getfield 21, 3) := by decide +kernel
theorem dX3_setting_49 : decode cX3_setting 49 = .ok (.getfield 116, 3) := by decide +kernel
theorem dX3_setting_52 : decode cX3_setting 52 = .ok (.istore_n 3, 1) := by decide +kernel
theorem dX3_setting_53 : decode cX3_setting 53 = .ok (.aload_n 0, 1) := by decide +kernel
theorem dX3_setting_54 : decode cX3_setting 54 = .ok (.getfield 21, 3) := by decide +kernel
theorem dX3_setting_57 : decode cX3_setting 57 = .ok (.iload_n 2, 1) := by decide +kernel
theorem dX3_setting_58 : decode cX3_setting 58 = .ok (.putfield 116, 3) := by decide +kernel
theorem dX3_setting_61 : decode cX3_setting 61 = .ok (.iload_n 3, 1) := by decide +kernel
theorem dX3_setting_62 : decode cX3_setting 62 = .ok (.ireturn, 1) := by decide +kernel
theorem dX3_setting_63 : decode cX3_setting 63 = .ok (.bipush (-2), 2) := by decide +kernel
theorem dX3_setting_65 : decode cX3_setting 65 = .ok (.ireturn, 1) := by decide +kernel
theorem dX3_ticks_0 : decode cX3_ticks 0 = .ok (.iload_n 1, 1) := by decide +kernel
theorem dX3_ticks_1 : decode cX3_ticks 1 = .ok (.ifCond .lt 9, 3) := by decide +kernel
theorem dX3_ticks_4 : decode cX3_ticks 4 = .ok (.iload_n 1, 1) := by decide +kernel
theorem dX3_ticks_5 : decode cX3_ticks 5 = .ok (.bipush 20, 2) := by decide +kernel
theorem dX3_ticks_7 : decode cX3_ticks 7 = .ok (.if_icmp .le 6, 3) := by decide +kernel
theorem dX3_ticks_10 : decode cX3_ticks 10 = .ok (.bipush (-2), 2) := by decide +kernel
theorem dX3_ticks_12 : decode cX3_ticks 12 = .ok (.ireturn, 1) := by decide +kernel
theorem dX3_ticks_13 : decode cX3_ticks 13 = .ok (.aload_n 0, 1) := by decide +kernel
theorem dX3_ticks_14 : decode cX3_ticks 14 = .ok (.getfield 21, 3) := by decide +kernel
theorem dX3_ticks_17 : decode cX3_ticks 17 = .ok (.iload_n 1, 1) := by decide +kernel
theorem dX3_ticks_18 : decode cX3_ticks 18 = .ok (.invokevirtual 119, 3) := by decide +kernel
theorem dX3_ticks_21 : decode cX3_ticks 21 = .ok (.ireturn, 1) := by decide +kernel
theorem dX3_handed_0 : decode cX3_handed 0 = .ok (.aload_n 0, 1) := by decide +kernel
theorem dX3_handed_1 : decode cX3_handed 1 = .ok (.iload_n 1, 1) := by decide +kernel
theorem dX3_handed_2 : decode cX3_handed 2 = .ok (.iload_n 2, 1) := by decide +kernel
theorem dX3_handed_3 : decode cX3_handed 3 = .ok (.invokevirtual 123, 3) := by decide +kernel
theorem dX3_handed_6 : decode cX3_handed 6 = .ok (.istore 5, 2) := by decide +kernel
theorem dX3_handed_8 : decode cX3_handed 8 = .ok (.iload 5, 2) := by decide +kernel
theorem dX3_handed_10 : decode cX3_handed 10 = .ok (.iconst (-1), 1) := by decide +kernel
theorem dX3_handed_11 : decode cX3_handed 11 = .ok (.if_icmp .eq 10, 3) := by decide +kernel
theorem dX3_handed_14 : decode cX3_handed 14 = .ok (.iload_n 3, 1) := by decide +kernel
theorem dX3_handed_15 : decode cX3_handed 15 = .ok (.invokestatic 89, 3) := by decide +kernel
theorem dX3_handed_18 : decode cX3_handed 18 = .ok (.ifCond .ne 5, 3) := by decide +kernel
theorem dX3_handed_21 : decode cX3_handed 21 = .ok (.iconst (-1), 1) := by decide +kernel
theorem dX3_handed_22 : decode cX3_handed 22 = .ok (.ireturn, 1) := by decide +kernel
theorem dX3_handed_23 : decode cX3_handed 23 = .ok (.aload_n 0, 1) := by decide +kernel
theorem dX3_handed_24 : decode cX3_handed 24 = .ok (.getfield 21, 3) := by decide +kernel
theorem dX3_handed_27 : decode cX3_handed 27 = .ok (.getfield 126, 3) := by decide +kernel
theorem dX3_handed_30 : decode cX3_handed 30 = .ok (.iload 5, 2) := by decide +kernel
theorem dX3_handed_32 : decode cX3_handed 32 = .ok (.iload_n 3, 1) := by decide +kernel
theorem dX3_handed_33 : decode cX3_handed 33 = .ok (.invokestatic 129, 3) := by decide +kernel
theorem dX3_handed_36 : decode cX3_handed 36 = .ok (.iaload, 1) := by decide +kernel
theorem dX3_handed_37 : decode cX3_handed 37 = .ok (.iload 4, 2) := by decide +kernel
theorem dX3_handed_39 : decode cX3_handed 39 = .ok (.invokestatic 132, 3) := by decide +kernel
theorem dX3_handed_42 : decode cX3_handed 42 = .ok (.ireturn, 1) := by decide +kernel
theorem dX3_kept_0 : decode cX3_kept 0 = .ok (.aload_n 0, 1) := by decide +kernel
theorem dX3_kept_1 : decode cX3_kept 1 = .ok (.iload_n 1, 1) := by decide +kernel
theorem dX3_kept_2 : decode cX3_kept 2 = .ok (.iload_n 2, 1) := by decide +kernel
theorem dX3_kept_3 : decode cX3_kept 3 = .ok (.invokevirtual 123, 3) := by decide +kernel
theorem dX3_kept_6 : decode cX3_kept 6 = .ok (.istore 5, 2) := by decide +kernel
theorem dX3_kept_8 : decode cX3_kept 8 = .ok (.iload 5, 2) := by decide +kernel
theorem dX3_kept_10 : decode cX3_kept 10 = .ok (.iconst (-1), 1) := by decide +kernel
theorem dX3_kept_11 : decode cX3_kept 11 = .ok (.if_icmp .eq 10, 3) := by decide +kernel
theorem dX3_kept_14 : decode cX3_kept 14 = .ok (.iload_n 3, 1) := by decide +kernel
theorem dX3_kept_15 : decode cX3_kept 15 = .ok (.invokestatic 89, 3) := by decide +kernel
theorem dX3_kept_18 : decode cX3_kept 18 = .ok (.ifCond .ne 5, 3) := by decide +kernel
theorem dX3_kept_21 : decode cX3_kept 21 = .ok (.iconst (-1), 1) := by decide +kernel
theorem dX3_kept_22 : decode cX3_kept 22 = .ok (.ireturn, 1) := by decide +kernel
theorem dX3_kept_23 : decode cX3_kept 23 = .ok (.aload_n 0, 1) := by decide +kernel
theorem dX3_kept_24 : decode cX3_kept 24 = .ok (.getfield 21, 3) := by decide +kernel
theorem dX3_kept_27 : decode cX3_kept 27 = .ok (.getfield 135, 3) := by decide +kernel
theorem dX3_kept_30 : decode cX3_kept 30 = .ok (.iload 5, 2) := by decide +kernel
theorem dX3_kept_32 : decode cX3_kept 32 = .ok (.iload_n 3, 1) := by decide +kernel
theorem dX3_kept_33 : decode cX3_kept 33 = .ok (.invokestatic 129, 3) := by decide +kernel
theorem dX3_kept_36 : decode cX3_kept 36 = .ok (.iaload, 1) := by decide +kernel
theorem dX3_kept_37 : decode cX3_kept 37 = .ok (.iload 4, 2) := by decide +kernel
theorem dX3_kept_39 : decode cX3_kept 39 = .ok (.invokestatic 132, 3) := by decide +kernel
theorem dX3_kept_42 : decode cX3_kept 42 = .ok (.ireturn, 1) := by decide +kernel
theorem dX3_used_0 : decode cX3_used 0 = .ok (.iload_n 1, 1) := by decide +kernel
theorem dX3_used_1 : decode cX3_used 1 = .ok (.invokestatic 37, 3) := by decide +kernel
theorem dX3_used_4 : decode cX3_used 4 = .ok (.ifCond .eq 10, 3) := by decide +kernel
theorem dX3_used_7 : decode cX3_used 7 = .ok (.iload_n 2, 1) := by decide +kernel
theorem dX3_used_8 : decode cX3_used 8 = .ok (.invokestatic 89, 3) := by decide +kernel
theorem dX3_used_11 : decode cX3_used 11 = .ok (.ifCond .ne 5, 3) := by decide +kernel
theorem dX3_used_14 : decode cX3_used 14 = .ok (.iconst (-1), 1) := by decide +kernel
theorem dX3_used_15 : decode cX3_used 15 = .ok (.ireturn, 1) := by decide +kernel
theorem dX3_used_16 : decode cX3_used 16 = .ok (.aload_n 0, 1) := by decide +kernel
theorem dX3_used_17 : decode cX3_used 17 = .ok (.getfield 21, 3) := by decide +kernel
theorem dX3_used_20 : decode cX3_used 20 = .ok (.iload_n 1, 1) := by decide +kernel
theorem dX3_used_21 : decode cX3_used 21 = .ok (.iload_n 2, 1) := by decide +kernel
theorem dX3_used_22 : decode cX3_used 22 = .ok (.invokevirtual 138, 3) := by decide +kernel
theorem dX3_used_25 : decode cX3_used 25 = .ok (.istore_n 3, 1) := by decide +kernel
theorem dX3_used_26 : decode cX3_used 26 = .ok (.iload_n 3, 1) := by decide +kernel
theorem dX3_used_27 : decode cX3_used 27 = .ok (.ifCond .ne 8, 3) := by decide +kernel
theorem dX3_used_30 : decode cX3_used 30 = .ok (.bipush (-9), 2) := by decide +kernel
theorem dX3_used_32 : decode cX3_used 32 = .ok (.goto 7, 3) := by decide +kernel
theorem dX3_used_35 : decode cX3_used 35 = .ok (.iload_n 3, 1) := by decide +kernel
theorem dX3_used_36 : decode cX3_used 36 = .ok (.invokestatic 141, 3) := by decide +kernel
theorem dX3_used_39 : decode cX3_used 39 = .ok (.ireturn, 1) := by decide +kernel
theorem dX3_meaning_0 : decode cX3_meaning 0 = .ok (.aload_n 0, 1) := by decide +kernel
theorem dX3_meaning_1 : decode cX3_meaning 1 = .ok (.iload_n 1, 1) := by decide +kernel
theorem dX3_meaning_2 : decode cX3_meaning 2 = .ok (.iload_n 2, 1) := by decide +kernel
theorem dX3_meaning_3 : decode cX3_meaning 3 = .ok (.invokevirtual 123, 3) := by decide +kernel
theorem dX3_meaning_6 : decode cX3_meaning 6 = .ok (.istore 4, 2) := by decide +kernel
theorem dX3_meaning_8 : decode cX3_meaning 8 = .ok (.iload 4, 2) := by decide +kernel
theorem dX3_meaning_10 : decode cX3_meaning 10 = .ok (.iconst (-1), 1) := by decide +kernel
theorem dX3_meaning_11 : decode cX3_meaning 11 = .ok (.if_icmp .ne 5, 3) := by decide +kernel
theorem dX3_meaning_14 : decode cX3_meaning 14 = .ok (.iconst (-1), 1) := by decide +kernel
theorem dX3_meaning_15 : decode cX3_meaning 15 = .ok (.ireturn, 1) := by decide +kernel
theorem dX3_meaning_16 : decode cX3_meaning 16 = .ok (.iload_n 3, 1) := by decide +kernel
theorem dX3_meaning_17 : decode cX3_meaning 17 = .ok (.ifCond .lt 9, 3) := by decide +kernel
theorem dX3_meaning_20 : decode cX3_meaning 20 = .ok (.iload_n 3, 1) := by decide +kernel
theorem dX3_meaning_21 : decode cX3_meaning 21 = .ok (.bipush 99, 2) := by decide +kernel
theorem dX3_meaning_23 : decode cX3_meaning 23 = .ok (.if_icmp .le 6, 3) := by decide +kernel
theorem dX3_meaning_26 : decode cX3_meaning 26 = .ok (.bipush (-2), 2) := by decide +kernel
theorem dX3_meaning_28 : decode cX3_meaning 28 = .ok (.ireturn, 1) := by decide +kernel
theorem dX3_meaning_29 : decode cX3_meaning 29 = .ok (.aload_n 0, 1) := by decide +kernel
theorem dX3_meaning_30 : decode cX3_meaning 30 = .ok (.getfield 21, 3) := by decide +kernel
theorem dX3_meaning_33 : decode cX3_meaning 33 = .ok (.iload_n 1, 1) := by decide +kernel
theorem dX3_meaning_34 : decode cX3_meaning 34 = .ok (.iload 4, 2) := by decide +kernel
theorem dX3_meaning_36 : decode cX3_meaning 36 = .ok (.iload_n 3, 1) := by decide +kernel
theorem dX3_meaning_37 : decode cX3_meaning 37 = .ok (.invokevirtual 144, 3) := by decide +kernel
theorem dX3_meaning_40 : decode cX3_meaning 40 = .ok (.istore 5, 2) := by decide +kernel
theorem dX3_meaning_42 : decode cX3_meaning 42 = .ok (.iload 5, 2) := by decide +kernel
theorem dX3_meaning_44 : decode cX3_meaning 44 = .ok (.iconst (-1), 1) := by decide +kernel
theorem dX3_meaning_45 : decode cX3_meaning 45 = .ok (.if_icmp .ne 8, 3) := by decide +kernel
theorem dX3_meaning_48 : decode cX3_meaning 48 = .ok (.bipush (-9), 2) := by decide +kernel
theorem dX3_meaning_50 : decode cX3_meaning 50 = .ok (.goto 5, 3) := by decide +kernel
theorem dX3_meaning_53 : decode cX3_meaning 53 = .ok (.iload 5, 2) := by decide +kernel
theorem dX3_meaning_55 : decode cX3_meaning 55 = .ok (.ireturn, 1) := by decide +kernel
theorem dX3_settles_0 : decode cX3_settles 0 = .ok (.aload_n 0, 1) := by decide +kernel
theorem dX3_settles_1 : decode cX3_settles 1 = .ok (.getfield 21, 3) := by decide +kernel
theorem dX3_settles_4 : decode cX3_settles 4 = .ok (.invokevirtual 147, 3) := by decide +kernel
theorem dX3_settles_7 : decode cX3_settles 7 = .ok (.ireturn, 1) := by decide +kernel
theorem dX3_letter_0 : decode cX3_letter 0 = .ok (.iload_n 1, 1) := by decide +kernel
theorem dX3_letter_1 : decode cX3_letter 1 = .ok (.invokestatic 37, 3) := by decide +kernel
theorem dX3_letter_4 : decode cX3_letter 4 = .ok (.ifCond .eq 10, 3) := by decide +kernel
theorem dX3_letter_7 : decode cX3_letter 7 = .ok (.iload_n 2, 1) := by decide +kernel
theorem dX3_letter_8 : decode cX3_letter 8 = .ok (.invokestatic 89, 3) := by decide +kernel
theorem dX3_letter_11 : decode cX3_letter 11 = .ok (.ifCond .ne 5, 3) := by decide +kernel
theorem dX3_letter_14 : decode cX3_letter 14 = .ok (.iconst (-1), 1) := by decide +kernel
theorem dX3_letter_15 : decode cX3_letter 15 = .ok (.ireturn, 1) := by decide +kernel
theorem dX3_letter_16 : decode cX3_letter 16 = .ok (.aload_n 0, 1) := by decide +kernel
theorem dX3_letter_17 : decode cX3_letter 17 = .ok (.getfield 30, 3) := by decide +kernel
theorem dX3_letter_20 : decode cX3_letter 20 = .ok (.iload_n 1, 1) := by decide +kernel
theorem dX3_letter_21 : decode cX3_letter 21 = .ok (.iload_n 2, 1) := by decide +kernel
theorem dX3_letter_22 : decode cX3_letter 22 = .ok (.invokevirtual 151, 3) := by decide +kernel
theorem dX3_letter_25 : decode cX3_letter 25 = .ok (.ireturn, 1) := by decide +kernel
theorem dX3_trace_0 : decode cX3_trace 0 = .ok (.iload_n 1, 1) := by decide +kernel
theorem dX3_trace_1 : decode cX3_trace 1 = .ok (.ifCond .lt 18, 3) := by decide +kernel
theorem dX3_trace_4 : decode cX3_trace 4 = .ok (.iload_n 1, 1) := by decide +kernel
theorem dX3_trace_5 : decode cX3_trace 5 = .ok (.bipush 14, 2) := by decide +kernel
theorem dX3_trace_7 : decode cX3_trace 7 = .ok (.if_icmp .gt 12, 3) := by decide +kernel
theorem dX3_trace_10 : decode cX3_trace 10 = .ok (.iload_n 2, 1) := by decide +kernel
theorem dX3_trace_11 : decode cX3_trace 11 = .ok (.ifCond .lt 8, 3) := by decide +kernel
theorem dX3_trace_14 : decode cX3_trace 14 = .ok (.iload_n 2, 1) := by decide +kernel
theorem dX3_trace_15 : decode cX3_trace 15 = .ok (.iconst 1, 1) := by decide +kernel
theorem dX3_trace_16 : decode cX3_trace 16 = .ok (.if_icmp .le 6, 3) := by decide +kernel
theorem dX3_trace_19 : decode cX3_trace 19 = .ok (.bipush (-2), 2) := by decide +kernel
theorem dX3_trace_21 : decode cX3_trace 21 = .ok (.ireturn, 1) := by decide +kernel
theorem dX3_trace_22 : decode cX3_trace 22 = .ok (.iload_n 1, 1) := by decide +kernel
theorem dX3_trace_23 : decode cX3_trace 23 = .ok (.aload_n 0, 1) := by decide +kernel
theorem dX3_trace_24 : decode cX3_trace 24 = .ok (.getfield 30, 3) := by decide +kernel
theorem dX3_trace_27 : decode cX3_trace 27 = .ok (.getfield 154, 3) := by decide +kernel
theorem dX3_trace_30 : decode cX3_trace 30 = .ok (.if_icmp .lt 6, 3) := by decide +kernel
theorem dX3_trace_33 : decode cX3_trace 33 = .ok (.bipush (-9), 2) := by decide +kernel
theorem dX3_trace_35 : decode cX3_trace 35 = .ok (.ireturn, 1) := by decide +kernel
theorem dX3_trace_36 : decode cX3_trace 36 = .ok (.iload_n 2, 1) := by decide +kernel
theorem dX3_trace_37 : decode cX3_trace 37 = .ok (.ifCond .ne 15, 3) := by decide +kernel
theorem dX3_trace_40 : decode cX3_trace 40 = .ok (.aload_n 0, 1) := by decide +kernel
theorem dX3_trace_41 : decode cX3_trace 41 = .ok (.getfield 30, 3) := by decide +kernel
theorem dX3_trace_44 : decode cX3_trace 44 = .ok (.getfield 157, 3) := by decide +kernel
theorem dX3_trace_47 : decode cX3_trace 47 = .ok (.iload_n 1, 1) := by decide +kernel
theorem dX3_trace_48 : decode cX3_trace 48 = .ok (.iaload, 1) := by decide +kernel
theorem dX3_trace_49 : decode cX3_trace 49 = .ok (.goto 12, 3) := by decide +kernel
theorem dX3_trace_52 : decode cX3_trace 52 = .ok (.aload_n 0, 1) := by decide +kernel
theorem dX3_trace_53 : decode cX3_trace 53 = .ok (.getfield 30, 3) := by decide +kernel
theorem dX3_trace_56 : decode cX3_trace 56 = .ok (.getfield 160, 3) := by decide +kernel
theorem dX3_trace_59 : decode cX3_trace 59 = .ok (.iload_n 1, 1) := by decide +kernel
theorem dX3_trace_60 : decode cX3_trace 60 = .ok (.iaload, 1) := by decide +kernel
theorem dX3_trace_61 : decode cX3_trace 61 = .ok (.ireturn, 1) := by decide +kernel
theorem dX3_served_0 : decode cX3_served 0 = .ok (.iload_n 1, 1) := by decide +kernel
theorem dX3_served_1 : decode cX3_served 1 = .ok (.invokestatic 89, 3) := by decide +kernel
theorem dX3_served_4 : decode cX3_served 4 = .ok (.ifCond .ne 5, 3) := by decide +kernel
theorem dX3_served_7 : decode cX3_served 7 = .ok (.iconst (-1), 1) := by decide +kernel
theorem dX3_served_8 : decode cX3_served 8 = .ok (.ireturn, 1) := by decide +kernel
theorem dX3_served_9 : decode cX3_served 9 = .ok (.iload_n 2, 1) := by decide +kernel
theorem dX3_served_10 : decode cX3_served 10 = .ok (.ifCond .lt 8, 3) := by decide +kernel
theorem dX3_served_13 : decode cX3_served 13 = .ok (.iload_n 2, 1) := by decide +kernel
theorem dX3_served_14 : decode cX3_served 14 = .ok (.iconst 2, 1) := by decide +kernel
theorem dX3_served_15 : decode cX3_served 15 = .ok (.if_icmp .le 6, 3) := by decide +kernel
theorem dX3_served_18 : decode cX3_served 18 = .ok (.bipush (-2), 2) := by decide +kernel
theorem dX3_served_20 : decode cX3_served 20 = .ok (.ireturn, 1) := by decide +kernel
theorem dX3_served_21 : decode cX3_served 21 = .ok (.iconst 0, 1) := by decide +kernel
theorem dX3_served_22 : decode cX3_served 22 = .ok (.istore_n 3, 1) := by decide +kernel
theorem dX3_served_23 : decode cX3_served 23 = .ok (.iconst 0, 1) := by decide +kernel
theorem dX3_served_24 : decode cX3_served 24 = .ok (.istore 4, 2) := by decide +kernel
theorem dX3_served_26 : decode cX3_served 26 = .ok (.iload 4, 2) := by decide +kernel
theorem dX3_served_28 : decode cX3_served 28 = .ok (.bipush 7, 2) := by decide +kernel
theorem dX3_served_30 : decode cX3_served 30 = .ok (.if_icmp .ge 27, 3) := by decide +kernel
theorem dX3_served_33 : decode cX3_served 33 = .ok (.aload_n 0, 1) := by decide +kernel
theorem dX3_served_34 : decode cX3_served 34 = .ok (.iload 4, 2) := by decide +kernel
theorem dX3_served_36 : decode cX3_served 36 = .ok (.iload_n 1, 1) := by decide +kernel
theorem dX3_served_37 : decode cX3_served 37 = .ok (.iload_n 2, 1) := by decide +kernel
theorem dX3_served_38 : decode cX3_served 38 = .ok (.invokevirtual 163, 3) := by decide +kernel
theorem dX3_served_41 : decode cX3_served 41 = .ok (.ifCond .eq 10, 3) := by decide +kernel
theorem dX3_served_44 : decode cX3_served 44 = .ok (.iload_n 3, 1) := by decide +kernel
theorem dX3_served_45 : decode cX3_served 45 = .ok (.iconst 1, 1) := by decide +kernel
theorem dX3_served_46 : decode cX3_served 46 = .ok (.iload 4, 2) := by decide +kernel
theorem dX3_served_48 : decode cX3_served 48 = .ok (.ishl, 1) := by decide +kernel
theorem dX3_served_49 : decode cX3_served 49 = .ok (.ior, 1) := by decide +kernel
theorem dX3_served_50 : decode cX3_served 50 = .ok (.istore_n 3, 1) := by decide +kernel
theorem dX3_served_51 : decode cX3_served 51 = .ok (.iinc 4 1, 3) := by decide +kernel
theorem dX3_served_54 : decode cX3_served 54 = .ok (.goto (-28), 3) := by decide +kernel
theorem dX3_served_57 : decode cX3_served 57 = .ok (.iload_n 3, 1) := by decide +kernel
theorem dX3_served_58 : decode cX3_served 58 = .ok (.ireturn, 1) := by decide +kernel
theorem dX3_merged_0 : decode cX3_merged 0 = .ok (.iload_n 1, 1) := by decide +kernel
theorem dX3_merged_1 : decode cX3_merged 1 = .ok (.invokestatic 37, 3) := by decide +kernel
theorem dX3_merged_4 : decode cX3_merged 4 = .ok (.ifCond .eq 10, 3) := by decide +kernel
theorem dX3_merged_7 : decode cX3_merged 7 = .ok (.iload_n 2, 1) := by decide +kernel
theorem dX3_merged_8 : decode cX3_merged 8 = .ok (.invokestatic 89, 3) := by decide +kernel
theorem dX3_merged_11 : decode cX3_merged 11 = .ok (.ifCond .ne 5, 3) := by decide +kernel
theorem dX3_merged_14 : decode cX3_merged 14 = .ok (.iconst (-1), 1) := by decide +kernel
theorem dX3_merged_15 : decode cX3_merged 15 = .ok (.ireturn, 1) := by decide +kernel
theorem dX3_merged_16 : decode cX3_merged 16 = .ok (.iconst 0, 1) := by decide +kernel
theorem dX3_merged_17 : decode cX3_merged 17 = .ok (.istore_n 3, 1) := by decide +kernel
theorem dX3_merged_18 : decode cX3_merged 18 = .ok (.iconst 0, 1) := by decide +kernel
theorem dX3_merged_19 : decode cX3_merged 19 = .ok (.istore 4, 2) := by decide +kernel
theorem dX3_merged_21 : decode cX3_merged 21 = .ok (.iload 4, 2) := by decide +kernel
theorem dX3_merged_23 : decode cX3_merged 23 = .ok (.bipush 7, 2) := by decide +kernel
theorem dX3_merged_25 : decode cX3_merged 25 = .ok (.if_icmp .ge 43, 3) := by decide +kernel
theorem dX3_merged_28 : decode cX3_merged 28 = .ok (.aload_n 0, 1) := by decide +kernel
theorem dX3_merged_29 : decode cX3_merged 29 = .ok (.getfield 12, 3) := by decide +kernel
theorem dX3_merged_32 : decode cX3_merged 32 = .ok (.iload 4, 2) := by decide +kernel
theorem dX3_merged_34 : decode cX3_merged 34 = .ok (.iload_n 2, 1) := by decide +kernel
theorem dX3_merged_35 : decode cX3_merged 35 = .ok (.invokevirtual 101, 3) := by decide +kernel
theorem dX3_merged_38 : decode cX3_merged 38 = .ok (.iload_n 1, 1) := by decide +kernel
theorem dX3_merged_39 : decode cX3_merged 39 = .ok (.if_icmp .ne 23, 3) := by decide +kernel
theorem dX3_merged_42 : decode cX3_merged 42 = .ok (.aload_n 0, 1) := by decide +kernel
theorem dX3_merged_43 : decode cX3_merged 43 = .ok (.getfield 21, 3) := by decide +kernel
theorem dX3_merged_46 : decode cX3_merged 46 = .ok (.iload 4, 2) := by decide +kernel
theorem dX3_merged_48 : decode cX3_merged 48 = .ok (.iload_n 2, 1) := by decide +kernel
theorem dX3_merged_49 : decode cX3_merged 49 = .ok (.invokevirtual 138, 3) := by decide +kernel
theorem dX3_merged_52 : decode cX3_merged 52 = .ok (.ifCond .eq 10, 3) := by decide +kernel
theorem dX3_merged_55 : decode cX3_merged 55 = .ok (.iload_n 3, 1) := by decide +kernel
theorem dX3_merged_56 : decode cX3_merged 56 = .ok (.iconst 1, 1) := by decide +kernel
theorem dX3_merged_57 : decode cX3_merged 57 = .ok (.iload 4, 2) := by decide +kernel
theorem dX3_merged_59 : decode cX3_merged 59 = .ok (.ishl, 1) := by decide +kernel
theorem dX3_merged_60 : decode cX3_merged 60 = .ok (.ior, 1) := by decide +kernel
theorem dX3_merged_61 : decode cX3_merged 61 = .ok (.istore_n 3, 1) := by decide +kernel
theorem dX3_merged_62 : decode cX3_merged 62 = .ok (.iinc 4 1, 3) := by decide +kernel
theorem dX3_merged_65 : decode cX3_merged 65 = .ok (.goto (-44), 3) := by decide +kernel
theorem dX3_merged_68 : decode cX3_merged 68 = .ok (.iload_n 3, 1) := by decide +kernel
theorem dX3_merged_69 : decode cX3_merged 69 = .ok (.ireturn, 1) := by decide +kernel
theorem dX3_many_0 : decode cX3_many 0 = .ok (.iload_n 1, 1) := by decide +kernel
theorem dX3_many_1 : decode cX3_many 1 = .ok (.tableswitch 105 0 6 #[43, 51, 59, 70, 81, 89, 97], 43) := by decide +kernel
theorem dX3_many_44 : decode cX3_many 44 = .ok (.aload_n 0, 1) := by decide +kernel
theorem dX3_many_45 : decode cX3_many 45 = .ok (.getfield 12, 3) := by decide +kernel
theorem dX3_many_48 : decode cX3_many 48 = .ok (.getfield 48, 3) := by decide +kernel
theorem dX3_many_51 : decode cX3_many 51 = .ok (.ireturn, 1) := by decide +kernel
theorem dX3_many_52 : decode cX3_many 52 = .ok (.aload_n 0, 1) := by decide +kernel
theorem dX3_many_53 : decode cX3_many 53 = .ok (.getfield 12, 3) := by decide +kernel
theorem dX3_many_56 : decode cX3_many 56 = .ok (.invokevirtual 167, 3) := by decide +kernel
theorem dX3_many_59 : decode cX3_many 59 = .ok (.ireturn, 1) := by decide +kernel
theorem dX3_many_60 : decode cX3_many 60 = .ok (.aload_n 0, 1) := by decide +kernel
theorem dX3_many_61 : decode cX3_many 61 = .ok (.getfield 21, 3) := by decide +kernel
theorem dX3_many_64 : decode cX3_many 64 = .ok (.getfield 126, 3) := by decide +kernel
theorem dX3_many_67 : decode cX3_many 67 = .ok (.invokestatic 170, 3) := by decide +kernel
theorem dX3_many_70 : decode cX3_many 70 = .ok (.ireturn, 1) := by decide +kernel
theorem dX3_many_71 : decode cX3_many 71 = .ok (.aload_n 0, 1) := by decide +kernel
theorem dX3_many_72 : decode cX3_many 72 = .ok (.getfield 21, 3) := by decide +kernel
theorem dX3_many_75 : decode cX3_many 75 = .ok (.getfield 135, 3) := by decide +kernel
theorem dX3_many_78 : decode cX3_many 78 = .ok (.invokestatic 170, 3) := by decide +kernel
theorem dX3_many_81 : decode cX3_many 81 = .ok (.ireturn, 1) := by decide +kernel
theorem dX3_many_82 : decode cX3_many 82 = .ok (.aload_n 0, 1) := by decide +kernel
theorem dX3_many_83 : decode cX3_many 83 = .ok (.getfield 12, 3) := by decide +kernel
theorem dX3_many_86 : decode cX3_many 86 = .ok (.invokevirtual 174, 3) := by decide +kernel
theorem dX3_many_89 : decode cX3_many 89 = .ok (.ireturn, 1) := by decide +kernel
theorem dX3_many_90 : decode cX3_many 90 = .ok (.aload_n 0, 1) := by decide +kernel
theorem dX3_many_91 : decode cX3_many 91 = .ok (.getfield 21, 3) := by decide +kernel
theorem dX3_many_94 : decode cX3_many 94 = .ok (.getfield 177, 3) := by decide +kernel
theorem dX3_many_97 : decode cX3_many 97 = .ok (.ireturn, 1) := by decide +kernel
theorem dX3_many_98 : decode cX3_many 98 = .ok (.aload_n 0, 1) := by decide +kernel
theorem dX3_many_99 : decode cX3_many 99 = .ok (.getfield 21, 3) := by decide +kernel
theorem dX3_many_102 : decode cX3_many 102 = .ok (.invokevirtual 180, 3) := by decide +kernel
theorem dX3_many_105 : decode cX3_many 105 = .ok (.ireturn, 1) := by decide +kernel
theorem dX3_many_106 : decode cX3_many 106 = .ok (.bipush (-2), 2) := by decide +kernel
theorem dX3_many_108 : decode cX3_many 108 = .ok (.ireturn, 1) := by decide +kernel
theorem dX3_isServed_0 : decode cX3_isServed 0 = .ok (.aload_n 0, 1) := by decide +kernel
theorem dX3_isServed_1 : decode cX3_isServed 1 = .ok (.getfield 34, 3) := by decide +kernel
theorem dX3_isServed_4 : decode cX3_isServed 4 = .ok (.iload_n 1, 1) := by decide +kernel
theorem dX3_isServed_5 : decode cX3_isServed 5 = .ok (.iload_n 2, 1) := by decide +kernel
theorem dX3_isServed_6 : decode cX3_isServed 6 = .ok (.invokevirtual 151, 3) := by decide +kernel
theorem dX3_isServed_9 : decode cX3_isServed 9 = .ok (.ifCond .ne 7, 3) := by decide +kernel
theorem dX3_isServed_12 : decode cX3_isServed 12 = .ok (.iconst 1, 1) := by decide +kernel
theorem dX3_isServed_13 : decode cX3_isServed 13 = .ok (.goto 4, 3) := by decide +kernel
theorem dX3_isServed_16 : decode cX3_isServed 16 = .ok (.iconst 0, 1) := by decide +kernel
theorem dX3_isServed_17 : decode cX3_isServed 17 = .ok (.istore 4, 2) := by decide +kernel
theorem dX3_isServed_19 : decode cX3_isServed 19 = .ok (.iload_n 3, 1) := by decide +kernel
theorem dX3_isServed_20 : decode cX3_isServed 20 = .ok (.ifCond .ne 6, 3) := by decide +kernel
theorem dX3_isServed_23 : decode cX3_isServed 23 = .ok (.iload 4, 2) := by decide +kernel
theorem dX3_isServed_25 : decode cX3_isServed 25 = .ok (.ireturn, 1) := by decide +kernel
theorem dX3_isServed_26 : decode cX3_isServed 26 = .ok (.iload_n 3, 1) := by decide +kernel
theorem dX3_isServed_27 : decode cX3_isServed 27 = .ok (.iconst 1, 1) := by decide +kernel
theorem dX3_isServed_28 : decode cX3_isServed 28 = .ok (.if_icmp .ne 14, 3) := by decide +kernel
theorem dX3_isServed_31 : decode cX3_isServed 31 = .ok (.iload 4, 2) := by decide +kernel
theorem dX3_isServed_33 : decode cX3_isServed 33 = .ok (.ifCond .ne 7, 3) := by decide +kernel
theorem dX3_isServed_36 : decode cX3_isServed 36 = .ok (.iconst 1, 1) := by decide +kernel
theorem dX3_isServed_37 : decode cX3_isServed 37 = .ok (.goto 4, 3) := by decide +kernel
theorem dX3_isServed_40 : decode cX3_isServed 40 = .ok (.iconst 0, 1) := by decide +kernel
theorem dX3_isServed_41 : decode cX3_isServed 41 = .ok (.ireturn, 1) := by decide +kernel
theorem dX3_isServed_42 : decode cX3_isServed 42 = .ok (.iload 4, 2) := by decide +kernel
theorem dX3_isServed_44 : decode cX3_isServed 44 = .ok (.ifCond .eq 17, 3) := by decide +kernel
theorem dX3_isServed_47 : decode cX3_isServed 47 = .ok (.aload_n 0, 1) := by decide +kernel
theorem dX3_isServed_48 : decode cX3_isServed 48 = .ok (.getfield 34, 3) := by decide +kernel
theorem dX3_isServed_51 : decode cX3_isServed 51 = .ok (.invokevirtual 183, 3) := by decide +kernel
theorem dX3_isServed_54 : decode cX3_isServed 54 = .ok (.ifCond .eq 7, 3) := by decide +kernel
theorem dX3_isServed_57 : decode cX3_isServed 57 = .ok (.iconst 1, 1) := by decide +kernel
theorem dX3_isServed_58 : decode cX3_isServed 58 = .ok (.goto 4, 3) := by decide +kernel
theorem dX3_isServed_61 : decode cX3_isServed 61 = .ok (.iconst 0, 1) := by decide +kernel
theorem dX3_isServed_62 : decode cX3_isServed 62 = .ok (.ireturn, 1) := by decide +kernel
theorem dX3_sideFor_0 : decode cX3_sideFor 0 = .ok (.iload_n 1, 1) := by decide +kernel
theorem dX3_sideFor_1 : decode cX3_sideFor 1 = .ok (.invokestatic 37, 3) := by decide +kernel
theorem dX3_sideFor_4 : decode cX3_sideFor 4 = .ok (.ifCond .eq 26, 3) := by decide +kernel
theorem dX3_sideFor_7 : decode cX3_sideFor 7 = .ok (.aload_n 0, 1) := by decide +kernel
theorem dX3_sideFor_8 : decode cX3_sideFor 8 = .ok (.getfield 12, 3) := by decide +kernel
theorem dX3_sideFor_11 : decode cX3_sideFor 11 = .ok (.iload_n 2, 1) := by decide +kernel
theorem dX3_sideFor_12 : decode cX3_sideFor 12 = .ok (.invokevirtual 65, 3) := by decide +kernel
theorem dX3_sideFor_15 : decode cX3_sideFor 15 = .ok (.ifCond .eq 15, 3) := by decide +kernel
theorem dX3_sideFor_18 : decode cX3_sideFor 18 = .ok (.aload_n 0, 1) := by decide +kernel
theorem dX3_sideFor_19 : decode cX3_sideFor 19 = .ok (.getfield 12, 3) := by decide +kernel
theorem dX3_sideFor_22 : decode cX3_sideFor 22 = .ok (.iload_n 2, 1) := by decide +kernel
theorem dX3_sideFor_23 : decode cX3_sideFor 23 = .ok (.iload_n 1, 1) := by decide +kernel
theorem dX3_sideFor_24 : decode cX3_sideFor 24 = .ok (.invokevirtual 187, 3) := by decide +kernel
theorem dX3_sideFor_27 : decode cX3_sideFor 27 = .ok (.goto 4, 3) := by decide +kernel
theorem dX3_sideFor_30 : decode cX3_sideFor 30 = .ok (.iconst (-1), 1) := by decide +kernel
theorem dX3_sideFor_31 : decode cX3_sideFor 31 = .ok (.ireturn, 1) := by decide +kernel
theorem dX3_isBox_0 : decode cX3_isBox 0 = .ok (.iload_n 0, 1) := by decide +kernel
theorem dX3_isBox_1 : decode cX3_isBox 1 = .ok (.ifCond .lt 13, 3) := by decide +kernel
theorem dX3_isBox_4 : decode cX3_isBox 4 = .ok (.iload_n 0, 1) := by decide +kernel
theorem dX3_isBox_5 : decode cX3_isBox 5 = .ok (.bipush 7, 2) := by decide +kernel
theorem dX3_isBox_7 : decode cX3_isBox 7 = .ok (.if_icmp .ge 7, 3) := by decide +kernel
theorem dX3_isBox_10 : decode cX3_isBox 10 = .ok (.iconst 1, 1) := by decide +kernel
theorem dX3_isBox_11 : decode cX3_isBox 11 = .ok (.goto 4, 3) := by decide +kernel
theorem dX3_isBox_14 : decode cX3_isBox 14 = .ok (.iconst 0, 1) := by decide +kernel
theorem dX3_isBox_15 : decode cX3_isBox 15 = .ok (.ireturn, 1) := by decide +kernel
theorem dX3_isClass_0 : decode cX3_isClass 0 = .ok (.iload_n 0, 1) := by decide +kernel
theorem dX3_isClass_1 : decode cX3_isClass 1 = .ok (.ifCond .lt 12, 3) := by decide +kernel
theorem dX3_isClass_4 : decode cX3_isClass 4 = .ok (.iload_n 0, 1) := by decide +kernel
theorem dX3_isClass_5 : decode cX3_isClass 5 = .ok (.iconst 4, 1) := by decide +kernel
theorem dX3_isClass_6 : decode cX3_isClass 6 = .ok (.if_icmp .ge 7, 3) := by decide +kernel
theorem dX3_isClass_9 : decode cX3_isClass 9 = .ok (.iconst 1, 1) := by decide +kernel
theorem dX3_isClass_10 : decode cX3_isClass 10 = .ok (.goto 4, 3) := by decide +kernel
theorem dX3_isClass_13 : decode cX3_isClass 13 = .ok (.iconst 0, 1) := by decide +kernel
theorem dX3_isClass_14 : decode cX3_isClass 14 = .ok (.ireturn, 1) := by decide +kernel
theorem dX3_isCost_0 : decode cX3_isCost 0 = .ok (.iload_n 0, 1) := by decide +kernel
theorem dX3_isCost_1 : decode cX3_isCost 1 = .ok (.iconst 1, 1) := by decide +kernel
theorem dX3_isCost_2 : decode cX3_isCost 2 = .ok (.if_icmp .lt 13, 3) := by decide +kernel
theorem dX3_isCost_5 : decode cX3_isCost 5 = .ok (.iload_n 0, 1) := by decide +kernel
theorem dX3_isCost_6 : decode cX3_isCost 6 = .ok (.bipush 9, 2) := by decide +kernel
theorem dX3_isCost_8 : decode cX3_isCost 8 = .ok (.if_icmp .gt 7, 3) := by decide +kernel
theorem dX3_isCost_11 : decode cX3_isCost 11 = .ok (.iconst 1, 1) := by decide +kernel
theorem dX3_isCost_12 : decode cX3_isCost 12 = .ok (.goto 4, 3) := by decide +kernel
theorem dX3_isCost_15 : decode cX3_isCost 15 = .ok (.iconst 0, 1) := by decide +kernel
theorem dX3_isCost_16 : decode cX3_isCost 16 = .ok (.ireturn, 1) := by decide +kernel
theorem dX3_isYesNo_0 : decode cX3_isYesNo 0 = .ok (.iload_n 0, 1) := by decide +kernel
theorem dX3_isYesNo_1 : decode cX3_isYesNo 1 = .ok (.ifCond .eq 8, 3) := by decide +kernel
theorem dX3_isYesNo_4 : decode cX3_isYesNo 4 = .ok (.iload_n 0, 1) := by decide +kernel
theorem dX3_isYesNo_5 : decode cX3_isYesNo 5 = .ok (.iconst 1, 1) := by decide +kernel
theorem dX3_isYesNo_6 : decode cX3_isYesNo 6 = .ok (.if_icmp .ne 7, 3) := by decide +kernel
theorem dX3_isYesNo_9 : decode cX3_isYesNo 9 = .ok (.iconst 1, 1) := by decide +kernel
theorem dX3_isYesNo_10 : decode cX3_isYesNo 10 = .ok (.goto 4, 3) := by decide +kernel
theorem dX3_isYesNo_13 : decode cX3_isYesNo 13 = .ok (.iconst 0, 1) := by decide +kernel
theorem dX3_isYesNo_14 : decode cX3_isYesNo 14 = .ok (.ireturn, 1) := by decide +kernel
theorem dX3_pair_0 : decode cX3_pair 0 = .ok (.iload_n 0, 1) := by decide +kernel
theorem dX3_pair_1 : decode cX3_pair 1 = .ok (.iconst 4, 1) := by decide +kernel
theorem dX3_pair_2 : decode cX3_pair 2 = .ok (.imul, 1) := by decide +kernel
theorem dX3_pair_3 : decode cX3_pair 3 = .ok (.iload_n 1, 1) := by decide +kernel
theorem dX3_pair_4 : decode cX3_pair 4 = .ok (.iadd, 1) := by decide +kernel
theorem dX3_pair_5 : decode cX3_pair 5 = .ok (.ireturn, 1) := by decide +kernel
theorem dX3_slot_0 : decode cX3_slot 0 = .ok (.iload_n 0, 1) := by decide +kernel
theorem dX3_slot_1 : decode cX3_slot 1 = .ok (.iconst 4, 1) := by decide +kernel
theorem dX3_slot_2 : decode cX3_slot 2 = .ok (.imul, 1) := by decide +kernel
theorem dX3_slot_3 : decode cX3_slot 3 = .ok (.iload_n 1, 1) := by decide +kernel
theorem dX3_slot_4 : decode cX3_slot 4 = .ok (.iadd, 1) := by decide +kernel
theorem dX3_slot_5 : decode cX3_slot 5 = .ok (.ireturn, 1) := by decide +kernel
theorem dX3_slipWith_0 : decode cX3_slipWith 0 = .ok (.iload_n 0, 1) := by decide +kernel
theorem dX3_slipWith_1 : decode cX3_slipWith 1 = .ok (.bipush 16, 2) := by decide +kernel
theorem dX3_slipWith_3 : decode cX3_slipWith 3 = .ok (.imul, 1) := by decide +kernel
theorem dX3_slipWith_4 : decode cX3_slipWith 4 = .ok (.iload_n 1, 1) := by decide +kernel
theorem dX3_slipWith_5 : decode cX3_slipWith 5 = .ok (.iadd, 1) := by decide +kernel
theorem dX3_slipWith_6 : decode cX3_slipWith 6 = .ok (.ireturn, 1) := by decide +kernel
theorem dX3_labelOf_0 : decode cX3_labelOf 0 = .ok (.iload_n 0, 1) := by decide +kernel
theorem dX3_labelOf_1 : decode cX3_labelOf 1 = .ok (.iconst 4, 1) := by decide +kernel
theorem dX3_labelOf_2 : decode cX3_labelOf 2 = .ok (.ishr, 1) := by decide +kernel
theorem dX3_labelOf_3 : decode cX3_labelOf 3 = .ok (.ireturn, 1) := by decide +kernel
theorem dX3_countOf_0 : decode cX3_countOf 0 = .ok (.iload_n 0, 1) := by decide +kernel
theorem dX3_countOf_1 : decode cX3_countOf 1 = .ok (.bipush 15, 2) := by decide +kernel
theorem dX3_countOf_3 : decode cX3_countOf 3 = .ok (.iand, 1) := by decide +kernel
theorem dX3_countOf_4 : decode cX3_countOf 4 = .ok (.ireturn, 1) := by decide +kernel
theorem dX3_partOf_0 : decode cX3_partOf 0 = .ok (.iload_n 1, 1) := by decide +kernel
theorem dX3_partOf_1 : decode cX3_partOf 1 = .ok (.ifCond .lt 8, 3) := by decide +kernel
theorem dX3_partOf_4 : decode cX3_partOf 4 = .ok (.iload_n 1, 1) := by decide +kernel
theorem dX3_partOf_5 : decode cX3_partOf 5 = .ok (.iconst 1, 1) := by decide +kernel
theorem dX3_partOf_6 : decode cX3_partOf 6 = .ok (.if_icmp .le 6, 3) := by decide +kernel
theorem dX3_partOf_9 : decode cX3_partOf 9 = .ok (.bipush (-2), 2) := by decide +kernel
theorem dX3_partOf_11 : decode cX3_partOf 11 = .ok (.ireturn, 1) := by decide +kernel
theorem dX3_partOf_12 : decode cX3_partOf 12 = .ok (.iload_n 0, 1) := by decide +kernel
theorem dX3_partOf_13 : decode cX3_partOf 13 = .ok (.ifCond .ne 6, 3) := by decide +kernel
theorem dX3_partOf_16 : decode cX3_partOf 16 = .ok (.bipush (-9), 2) := by decide +kernel
theorem dX3_partOf_18 : decode cX3_partOf 18 = .ok (.ireturn, 1) := by decide +kernel
theorem dX3_partOf_19 : decode cX3_partOf 19 = .ok (.iload_n 1, 1) := by decide +kernel
theorem dX3_partOf_20 : decode cX3_partOf 20 = .ok (.ifCond .ne 10, 3) := by decide +kernel
theorem dX3_partOf_23 : decode cX3_partOf 23 = .ok (.iload_n 0, 1) := by decide +kernel
theorem dX3_partOf_24 : decode cX3_partOf 24 = .ok (.invokestatic 141, 3) := by decide +kernel
theorem dX3_partOf_27 : decode cX3_partOf 27 = .ok (.goto 7, 3) := by decide +kernel
theorem dX3_partOf_30 : decode cX3_partOf 30 = .ok (.iload_n 0, 1) := by decide +kernel
theorem dX3_partOf_31 : decode cX3_partOf 31 = .ok (.invokestatic 190, 3) := by decide +kernel
theorem dX3_partOf_34 : decode cX3_partOf 34 = .ok (.ireturn, 1) := by decide +kernel
theorem dX3_countSlips_0 : decode cX3_countSlips 0 = .ok (.iconst 0, 1) := by decide +kernel
theorem dX3_countSlips_1 : decode cX3_countSlips 1 = .ok (.istore_n 1, 1) := by decide +kernel
theorem dX3_countSlips_2 : decode cX3_countSlips 2 = .ok (.iconst 0, 1) := by decide +kernel
theorem dX3_countSlips_3 : decode cX3_countSlips 3 = .ok (.istore_n 2, 1) := by decide +kernel
theorem dX3_countSlips_4 : decode cX3_countSlips 4 = .ok (.iload_n 2, 1) := by decide +kernel
theorem dX3_countSlips_5 : decode cX3_countSlips 5 = .ok (.aload_n 0, 1) := by decide +kernel
theorem dX3_countSlips_6 : decode cX3_countSlips 6 = .ok (.arraylength, 1) := by decide +kernel
theorem dX3_countSlips_7 : decode cX3_countSlips 7 = .ok (.if_icmp .ge 18, 3) := by decide +kernel
theorem dX3_countSlips_10 : decode cX3_countSlips 10 = .ok (.aload_n 0, 1) := by decide +kernel
theorem dX3_countSlips_11 : decode cX3_countSlips 11 = .ok (.iload_n 2, 1) := by decide +kernel
theorem dX3_countSlips_12 : decode cX3_countSlips 12 = .ok (.iaload, 1) := by decide +kernel
theorem dX3_countSlips_13 : decode cX3_countSlips 13 = .ok (.ifCond .eq 6, 3) := by decide +kernel
theorem dX3_countSlips_16 : decode cX3_countSlips 16 = .ok (.iinc 1 1, 3) := by decide +kernel
theorem dX3_countSlips_19 : decode cX3_countSlips 19 = .ok (.iinc 2 1, 3) := by decide +kernel
theorem dX3_countSlips_22 : decode cX3_countSlips 22 = .ok (.goto (-18), 3) := by decide +kernel
theorem dX3_countSlips_25 : decode cX3_countSlips 25 = .ok (.iload_n 1, 1) := by decide +kernel
theorem dX3_countSlips_26 : decode cX3_countSlips 26 = .ok (.ireturn, 1) := by decide +kernel
theorem dX4_init_0 : decode cX4_init 0 = .ok (.aload_n 0, 1) := by decide +kernel
theorem dX4_init_1 : decode cX4_init 1 = .ok (.invokespecial 1, 3) := by decide +kernel
theorem dX4_init_4 : decode cX4_init 4 = .ok (.aload_n 0, 1) := by decide +kernel
theorem dX4_init_5 : decode cX4_init 5 = .ok (.bipush 12, 2) := by decide +kernel
theorem dX4_init_7 : decode cX4_init 7 = .ok (.newarray .int, 2) := by decide +kernel
theorem dX4_init_9 : decode cX4_init 9 = .ok (.putfield 7, 3) := by decide +kernel
theorem dX4_init_12 : decode cX4_init 12 = .ok (.aload_n 0, 1) := by decide +kernel
theorem dX4_init_13 : decode cX4_init 13 = .ok (.bipush 12, 2) := by decide +kernel
theorem dX4_init_15 : decode cX4_init 15 = .ok (.newarray .int, 2) := by decide +kernel
theorem dX4_init_17 : decode cX4_init 17 = .ok (.putfield 13, 3) := by decide +kernel
theorem dX4_init_20 : decode cX4_init 20 = .ok (.aload_n 0, 1) := by decide +kernel
theorem dX4_init_21 : decode cX4_init 21 = .ok (.bipush 12, 2) := by decide +kernel
theorem dX4_init_23 : decode cX4_init 23 = .ok (.newarray .int, 2) := by decide +kernel
theorem dX4_init_25 : decode cX4_init 25 = .ok (.putfield 16, 3) := by decide +kernel
theorem dX4_init_28 : decode cX4_init 28 = .ok (.aload_n 0, 1) := by decide +kernel
theorem dX4_init_29 : decode cX4_init 29 = .ok (.bipush 12, 2) := by decide +kernel
theorem dX4_init_31 : decode cX4_init 31 = .ok (.newarray .boolean, 2) := by decide +kernel
theorem dX4_init_33 : decode cX4_init 33 = .ok (.putfield 19, 3) := by decide +kernel
theorem dX4_init_36 : decode cX4_init 36 = .ok (.aload_n 0, 1) := by decide +kernel
theorem dX4_init_37 : decode cX4_init 37 = .ok (.iconst 4, 1) := by decide +kernel
theorem dX4_init_38 : decode cX4_init 38 = .ok (.newarray .int, 2) := by decide +kernel
theorem dX4_init_40 : decode cX4_init 40 = .ok (.putfield 23, 3) := by decide +kernel
theorem dX4_init_43 : decode cX4_init 43 = .ok (.aload_n 0, 1) := by decide +kernel
theorem dX4_init_44 : decode cX4_init 44 = .ok (.bipush 7, 2) := by decide +kernel
theorem dX4_init_46 : decode cX4_init 46 = .ok (.newarray .int, 2) := by decide +kernel
theorem dX4_init_48 : decode cX4_init 48 = .ok (.putfield 26, 3) := by decide +kernel
theorem dX4_init_51 : decode cX4_init 51 = .ok (.aload_n 0, 1) := by decide +kernel
theorem dX4_init_52 : decode cX4_init 52 = .ok (.bipush 28, 2) := by decide +kernel
theorem dX4_init_54 : decode cX4_init 54 = .ok (.newarray .int, 2) := by decide +kernel
theorem dX4_init_56 : decode cX4_init 56 = .ok (.putfield 29, 3) := by decide +kernel
theorem dX4_init_59 : decode cX4_init 59 = .ok (.aload_n 0, 1) := by decide +kernel
theorem dX4_init_60 : decode cX4_init 60 = .ok (.iconst 2, 1) := by decide +kernel
theorem dX4_init_61 : decode cX4_init 61 = .ok (.newarray .int, 2) := by decide +kernel
theorem dX4_init_63 : decode cX4_init 63 = .ok (.putfield 32, 3) := by decide +kernel
theorem dX4_init_66 : decode cX4_init 66 = .ok (.aload_n 0, 1) := by decide +kernel
theorem dX4_init_67 : decode cX4_init 67 = .ok (.sipush 336, 3) := by decide +kernel
theorem dX4_init_70 : decode cX4_init 70 = .ok (.newarray .int, 2) := by decide +kernel
theorem dX4_init_72 : decode cX4_init 72 = .ok (.putfield 35, 3) := by decide +kernel
theorem dX4_init_75 : decode cX4_init 75 = .ok (.aload_n 0, 1) := by decide +kernel
theorem dX4_init_76 : decode cX4_init 76 = .ok (.sipush 336, 3) := by decide +kernel
theorem dX4_init_79 : decode cX4_init 79 = .ok (.newarray .int, 2) := by decide +kernel
theorem dX4_init_81 : decode cX4_init 81 = .ok (.putfield 38, 3) := by decide +kernel
theorem dX4_init_84 : decode cX4_init 84 = .ok (.aload_n 0, 1) := by decide +kernel
theorem dX4_init_85 : decode cX4_init 85 = .ok (.sipush 336, 3) := by decide +kernel
theorem dX4_init_88 : decode cX4_init 88 = .ok (.newarray .int, 2) := by decide +kernel
theorem dX4_init_90 : decode cX4_init 90 = .ok (.putfield 41, 3) := by decide +kernel
theorem dX4_init_93 : decode cX4_init 93 = .ok (.aload_n 0, 1) := by decide +kernel
theorem dX4_init_94 : decode cX4_init 94 = .ok (.sipush 336, 3) := by decide +kernel
theorem dX4_init_97 : decode cX4_init 97 = .ok (.newarray .int, 2) := by decide +kernel
theorem dX4_init_99 : decode cX4_init 99 = .ok (.putfield 44, 3) := by decide +kernel
theorem dX4_init_102 : decode cX4_init 102 = .ok (.aload_n 0, 1) := by decide +kernel
theorem dX4_init_103 : decode cX4_init 103 = .ok (.sipush 336, 3) := by decide +kernel
theorem dX4_init_106 : decode cX4_init 106 = .ok (.newarray .int, 2) := by decide +kernel
theorem dX4_init_108 : decode cX4_init 108 = .ok (.putfield 47, 3) := by decide +kernel
theorem dX4_init_111 : decode cX4_init 111 = .ok (.aload_n 0, 1) := by decide +kernel
theorem dX4_init_112 : decode cX4_init 112 = .ok (.sipush 336, 3) := by decide +kernel
theorem dX4_init_115 : decode cX4_init 115 = .ok (.newarray .int, 2) := by decide +kernel
theorem dX4_init_117 : decode cX4_init 117 = .ok (.putfield 50, 3) := by decide +kernel
theorem dX4_init_120 : decode cX4_init 120 = .ok (.aload_n 0, 1) := by decide +kernel
theorem dX4_init_121 : decode cX4_init 121 = .ok (.sipush 336, 3) := by decide +kernel
theorem dX4_init_124 : decode cX4_init 124 = .ok (.newarray .int, 2) := by decide +kernel
theorem dX4_init_126 : decode cX4_init 126 = .ok (.putfield 53, 3) := by decide +kernel
theorem dX4_init_129 : decode cX4_init 129 = .ok (.aload_n 0, 1) := by decide +kernel
theorem dX4_init_130 : decode cX4_init 130 = .ok (.sipush 336, 3) := by decide +kernel
theorem dX4_init_133 : decode cX4_init 133 = .ok (.newarray .int, 2) := by decide +kernel
theorem dX4_init_135 : decode cX4_init 135 = .ok (.putfield 56, 3) := by decide +kernel
theorem dX4_init_138 : decode cX4_init 138 = .ok (.aload_n 0, 1) := by decide +kernel
theorem dX4_init_139 : decode cX4_init 139 = .ok (.bipush 28, 2) := by decide +kernel
theorem dX4_init_141 : decode cX4_init 141 = .ok (.newarray .int, 2) := by decide +kernel
theorem dX4_init_143 : decode cX4_init 143 = .ok (.putfield 59, 3) := by decide +kernel
theorem dX4_init_146 : decode cX4_init 146 = .ok (.aload_n 0, 1) := by decide +kernel
theorem dX4_init_147 : decode cX4_init 147 = .ok (.bipush 28, 2) := by decide +kernel
theorem dX4_init_149 : decode cX4_init 149 = .ok (.newarray .int, 2) := by decide +kernel
theorem dX4_init_151 : decode cX4_init 151 = .ok (.putfield 62, 3) := by decide +kernel
theorem dX4_init_154 : decode cX4_init 154 = .ok (.aload_n 0, 1) := by decide +kernel
theorem dX4_init_155 : decode cX4_init 155 = .ok (.sipush 1344, 3) := by decide +kernel
theorem dX4_init_158 : decode cX4_init 158 = .ok (.newarray .int, 2) := by decide +kernel
theorem dX4_init_160 : decode cX4_init 160 = .ok (.putfield 65, 3) := by decide +kernel
theorem dX4_init_163 : decode cX4_init 163 = .ok (.aload_n 0, 1) := by decide +kernel
theorem dX4_init_164 : decode cX4_init 164 = .ok (.bipush 15, 2) := by decide +kernel
theorem dX4_init_166 : decode cX4_init 166 = .ok (.newarray .int, 2) := by decide +kernel
theorem dX4_init_168 : decode cX4_init 168 = .ok (.putfield 68, 3) := by decide +kernel
theorem dX4_init_171 : decode cX4_init 171 = .ok (.aload_n 0, 1) := by decide +kernel
theorem dX4_init_172 : decode cX4_init 172 = .ok (.bipush 15, 2) := by decide +kernel
theorem dX4_init_174 : decode cX4_init 174 = .ok (.newarray .int, 2) := by decide +kernel
theorem dX4_init_176 : decode cX4_init 176 = .ok (.putfield 71, 3) := by decide +kernel
theorem dX4_init_179 : decode cX4_init 179 = .ok (.aload_n 0, 1) := by decide +kernel
theorem dX4_init_180 : decode cX4_init 180 = .ok (.bipush 15, 2) := by decide +kernel
theorem dX4_init_182 : decode cX4_init 182 = .ok (.newarray .int, 2) := by decide +kernel
theorem dX4_init_184 : decode cX4_init 184 = .ok (.putfield 74, 3) := by decide +kernel
theorem dX4_init_187 : decode cX4_init 187 = .ok (.aload_n 0, 1) := by decide +kernel
theorem dX4_init_188 : decode cX4_init 188 = .ok (.bipush 15, 2) := by decide +kernel
theorem dX4_init_190 : decode cX4_init 190 = .ok (.newarray .int, 2) := by decide +kernel
theorem dX4_init_192 : decode cX4_init 192 = .ok (.putfield 77, 3) := by decide +kernel
theorem dX4_init_195 : decode cX4_init 195 = .ok (.iconst 0, 1) := by decide +kernel
theorem dX4_init_196 : decode cX4_init 196 = .ok (.istore_n 1, 1) := by decide +kernel
theorem dX4_init_197 : decode cX4_init 197 = .ok (.iload_n 1, 1) := by decide +kernel
theorem dX4_init_198 : decode cX4_init 198 = .ok (.iconst 4, 1) := by decide +kernel
theorem dX4_init_199 : decode cX4_init 199 = .ok (.if_icmp .ge 17, 3) := by decide +kernel
theorem dX4_init_202 : decode cX4_init 202 = .ok (.aload_n 0, 1) := by decide +kernel
theorem dX4_init_203 : decode cX4_init 203 = .ok (.getfield 23, 3) := by decide +kernel
theorem dX4_init_206 : decode cX4_init 206 = .ok (.iload_n 1, 1) := by decide +kernel
theorem dX4_init_207 : decode cX4_init 207 = .ok (.bipush (-9), 2) := by decide +kernel
theorem dX4_init_209 : decode cX4_init 209 = .ok (.iastore, 1) := by decide +kernel
theorem dX4_init_210 : decode cX4_init 210 = .ok (.iinc 1 1, 3) := by decide +kernel
theorem dX4_init_213 : decode cX4_init 213 = .ok (.goto (-16), 3) := by decide +kernel
theorem dX4_init_216 : decode cX4_init 216 = .ok (.aload_n 0, 1) := by decide +kernel
theorem dX4_init_217 : decode cX4_init 217 = .ok (.getfield 32, 3) := by decide +kernel
theorem dX4_init_220 : decode cX4_init 220 = .ok (.iconst 0, 1) := by decide +kernel
theorem dX4_init_221 : decode cX4_init 221 = .ok (.iconst 1, 1) := by decide +kernel
theorem dX4_init_222 : decode cX4_init 222 = .ok (.iastore, 1) := by decide +kernel
theorem dX4_init_223 : decode cX4_init 223 = .ok (.aload_n 0, 1) := by decide +kernel
theorem dX4_init_224 : decode cX4_init 224 = .ok (.getfield 32, 3) := by decide +kernel
theorem dX4_init_227 : decode cX4_init 227 = .ok (.iconst 1, 1) := by decide +kernel
theorem dX4_init_228 : decode cX4_init 228 = .ok (.bipush 7, 2) := by decide +kernel
theorem dX4_init_230 : decode cX4_init 230 = .ok (.iastore, 1) := by decide +kernel
theorem dX4_init_231 : decode cX4_init 231 = .ok (.return_, 1) := by decide +kernel
theorem dX4_within_0 : decode cX4_within 0 = .ok (.iload_n 0, 1) := by decide +kernel
theorem dX4_within_1 : decode cX4_within 1 = .ok (.iload_n 1, 1) := by decide +kernel
theorem dX4_within_2 : decode cX4_within 2 = .ok (.if_icmp .lt 12, 3) := by decide +kernel
theorem dX4_within_5 : decode cX4_within 5 = .ok (.iload_n 0, 1) := by decide +kernel
theorem dX4_within_6 : decode cX4_within 6 = .ok (.iload_n 2, 1) := by decide +kernel
theorem dX4_within_7 : decode cX4_within 7 = .ok (.if_icmp .gt 7, 3) := by decide +kernel
theorem dX4_within_10 : decode cX4_within 10 = .ok (.iconst 1, 1) := by decide +kernel
theorem dX4_within_11 : decode cX4_within 11 = .ok (.goto 4, 3) := by decide +kernel
theorem dX4_within_14 : decode cX4_within 14 = .ok (.iconst 0, 1) := by decide +kernel
theorem dX4_within_15 : decode cX4_within 15 = .ok (.ireturn, 1) := by decide +kernel
theorem dX4_isBox_0 : decode cX4_isBox 0 = .ok (.iload_n 0, 1) := by decide +kernel
theorem dX4_isBox_1 : decode cX4_isBox 1 = .ok (.iconst 0, 1) := by decide +kernel
theorem dX4_isBox_2 : decode cX4_isBox 2 = .ok (.bipush 6, 2) := by decide +kernel
theorem dX4_isBox_4 : decode cX4_isBox 4 = .ok (.invokestatic 80, 3) := by decide +kernel
theorem dX4_isBox_7 : decode cX4_isBox 7 = .ok (.ireturn, 1) := by decide +kernel
theorem dX4_isClass_0 : decode cX4_isClass 0 = .ok (.iload_n 0, 1) := by decide +kernel
theorem dX4_isClass_1 : decode cX4_isClass 1 = .ok (.iconst 0, 1) := by decide +kernel
theorem dX4_isClass_2 : decode cX4_isClass 2 = .ok (.iconst 3, 1) := by decide +kernel
theorem dX4_isClass_3 : decode cX4_isClass 3 = .ok (.invokestatic 80, 3) := by decide +kernel
theorem dX4_isClass_6 : decode cX4_isClass 6 = .ok (.ireturn, 1) := by decide +kernel
theorem dX4_isLink_0 : decode cX4_isLink 0 = .ok (.iload_n 1, 1) := by decide +kernel
theorem dX4_isLink_1 : decode cX4_isLink 1 = .ok (.iconst 0, 1) := by decide +kernel
theorem dX4_isLink_2 : decode cX4_isLink 2 = .ok (.aload_n 0, 1) := by decide +kernel
theorem dX4_isLink_3 : decode cX4_isLink 3 = .ok (.getfield 84, 3) := by decide +kernel
theorem dX4_isLink_6 : decode cX4_isLink 6 = .ok (.iconst 1, 1) := by decide +kernel
theorem dX4_isLink_7 : decode cX4_isLink 7 = .ok (.isub, 1) := by decide +kernel
theorem dX4_isLink_8 : decode cX4_isLink 8 = .ok (.invokestatic 80, 3) := by decide +kernel
theorem dX4_isLink_11 : decode cX4_isLink 11 = .ok (.ireturn, 1) := by decide +kernel
theorem dX4_linkBetween_0 : decode cX4_linkBetween 0 = .ok (.iconst 0, 1) := by decide +kernel
theorem dX4_linkBetween_1 : decode cX4_linkBetween 1 = .ok (.istore_n 3, 1) := by decide +kernel
theorem dX4_linkBetween_2 : decode cX4_linkBetween 2 = .ok (.iload_n 3, 1) := by decide +kernel
theorem dX4_linkBetween_3 : decode cX4_linkBetween 3 = .ok (.aload_n 0, 1) := by decide +kernel
theorem dX4_linkBetween_4 : decode cX4_linkBetween 4 = .ok (.getfield 84, 3) := by decide +kernel
theorem dX4_linkBetween_7 : decode cX4_linkBetween 7 = .ok (.if_icmp .ge 51, 3) := by decide +kernel
theorem dX4_linkBetween_10 : decode cX4_linkBetween 10 = .ok (.aload_n 0, 1) := by decide +kernel
theorem dX4_linkBetween_11 : decode cX4_linkBetween 11 = .ok (.getfield 7, 3) := by decide +kernel
theorem dX4_linkBetween_14 : decode cX4_linkBetween 14 = .ok (.iload_n 3, 1) := by decide +kernel
theorem dX4_linkBetween_15 : decode cX4_linkBetween 15 = .ok (.iaload, 1) := by decide +kernel
theorem dX4_linkBetween_16 : decode cX4_linkBetween 16 = .ok (.iload_n 1, 1) := by decide +kernel
theorem dX4_linkBetween_17 : decode cX4_linkBetween 17 = .ok (.if_icmp .ne 13, 3) := by decide +kernel
theorem dX4_linkBetween_20 : decode cX4_linkBetween 20 = .ok (.aload_n 0, 1) := by decide +kernel
theorem dX4_linkBetween_21 : decode cX4_linkBetween 21 = .ok (.getfield 13, 3) := by decide +kernel
theorem dX4_linkBetween_24 : decode cX4_linkBetween 24 = .ok (.iload_n 3, 1) := by decide +kernel
theorem dX4_linkBetween_25 : decode cX4_linkBetween 25 = .ok (.iaload, 1) := by decide +kernel
theorem dX4_linkBetween_26 : decode cX4_linkBetween 26 = .ok (.iload_n 2, 1) := by decide +kernel
theorem dX4_linkBetween_27 : decode cX4_linkBetween 27 = .ok (.if_icmp .eq 23, 3) := by decide +kernel
theorem dX4_linkBetween_30 : decode cX4_linkBetween 30 = .ok (.aload_n 0, 1) := by decide +kernel
theorem dX4_linkBetween_31 : decode cX4_linkBetween 31 = .ok (.getfield 7, 3) := by decide +kernel
theorem dX4_linkBetween_34 : decode cX4_linkBetween 34 = .ok (.iload_n 3, 1) := by decide +kernel
theorem dX4_linkBetween_35 : decode cX4_linkBetween 35 = .ok (.iaload, 1) := by decide +kernel
theorem dX4_linkBetween_36 : decode cX4_linkBetween 36 = .ok (.iload_n 2, 1) := by decide +kernel
theorem dX4_linkBetween_37 : decode cX4_linkBetween 37 = .ok (.if_icmp .ne 15, 3) := by decide +kernel
theorem dX4_linkBetween_40 : decode cX4_linkBetween 40 = .ok (.aload_n 0, 1) := by decide +kernel
theorem dX4_linkBetween_41 : decode cX4_linkBetween 41 = .ok (.getfield 13, 3) := by decide +kernel
theorem dX4_linkBetween_44 : decode cX4_linkBetween 44 = .ok (.iload_n 3, 1) := by decide +kernel
theorem dX4_linkBetween_45 : decode cX4_linkBetween 45 = .ok (.iaload, 1) := by decide +kernel
theorem dX4_linkBetween_46 : decode cX4_linkBetween 46 = .ok (.iload_n 1, 1) := by decide +kernel
theorem dX4_linkBetween_47 : decode cX4_linkBetween 47 = .ok (.if_icmp .ne 5, 3) := by decide +kernel
theorem dX4_linkBetween_50 : decode cX4_linkBetween 50 = .ok (.iload_n 3, 1) := by decide +kernel
theorem dX4_linkBetween_51 : decode cX4_linkBetween 51 = .ok (.ireturn, 1) := by decide +kernel
theorem dX4_linkBetween_52 : decode cX4_linkBetween 52 = .ok (.iinc 3 1, 3) := by decide +kernel
theorem dX4_linkBetween_55 : decode cX4_linkBetween 55 = .ok (.goto (-53), 3) := by decide +kernel
theorem dX4_linkBetween_58 : decode cX4_linkBetween 58 = .ok (.bipush (-9), 2) := by decide +kernel
theorem dX4_linkBetween_60 : decode cX4_linkBetween 60 = .ok (.ireturn, 1) := by decide +kernel
theorem dX4_isAt_0 : decode cX4_isAt 0 = .ok (.aload_n 0, 1) := by decide +kernel
theorem dX4_isAt_1 : decode cX4_isAt 1 = .ok (.getfield 7, 3) := by decide +kernel
theorem dX4_isAt_4 : decode cX4_isAt 4 = .ok (.iload_n 1, 1) := by decide +kernel
theorem dX4_isAt_5 : decode cX4_isAt 5 = .ok (.iaload, 1) := by decide +kernel
theorem dX4_isAt_6 : decode cX4_isAt 6 = .ok (.iload_n 2, 1) := by decide +kernel
theorem dX4_isAt_7 : decode cX4_isAt 7 = .ok (.if_icmp .eq 13, 3) := by decide +kernel
theorem dX4_isAt_10 : decode cX4_isAt 10 = .ok (.aload_n 0, 1) := by decide +kernel
theorem dX4_isAt_11 : decode cX4_isAt 11 = .ok (.getfield 13, 3) := by decide +kernel
theorem dX4_isAt_14 : decode cX4_isAt 14 = .ok (.iload_n 1, 1) := by decide +kernel
theorem dX4_isAt_15 : decode cX4_isAt 15 = .ok (.iaload, 1) := by decide +kernel
theorem dX4_isAt_16 : decode cX4_isAt 16 = .ok (.iload_n 2, 1) := by decide +kernel
theorem dX4_isAt_17 : decode cX4_isAt 17 = .ok (.if_icmp .ne 7, 3) := by decide +kernel
theorem dX4_isAt_20 : decode cX4_isAt 20 = .ok (.iconst 1, 1) := by decide +kernel
theorem dX4_isAt_21 : decode cX4_isAt 21 = .ok (.goto 4, 3) := by decide +kernel
theorem dX4_isAt_24 : decode cX4_isAt 24 = .ok (.iconst 0, 1) := by decide +kernel
theorem dX4_isAt_25 : decode cX4_isAt 25 = .ok (.ireturn, 1) := by decide +kernel
theorem dX4_otherOf_0 : decode cX4_otherOf 0 = .ok (.aload_n 0, 1) := by decide +kernel
theorem dX4_otherOf_1 : decode cX4_otherOf 1 = .ok (.getfield 7, 3) := by decide +kernel
theorem dX4_otherOf_4 : decode cX4_otherOf 4 = .ok (.iload_n 1, 1) := by decide +kernel
theorem dX4_otherOf_5 : decode cX4_otherOf 5 = .ok (.iaload, 1) := by decide +kernel
theorem dX4_otherOf_6 : decode cX4_otherOf 6 = .ok (.iload_n 2, 1) := by decide +kernel
theorem dX4_otherOf_7 : decode cX4_otherOf 7 = .ok (.if_icmp .ne 12, 3) := by decide +kernel
theorem dX4_otherOf_10 : decode cX4_otherOf 10 = .ok (.aload_n 0, 1) := by decide +kernel
theorem dX4_otherOf_11 : decode cX4_otherOf 11 = .ok (.getfield 13, 3) := by decide +kernel
theorem dX4_otherOf_14 : decode cX4_otherOf 14 = .ok (.iload_n 1, 1) := by decide +kernel
theorem dX4_otherOf_15 : decode cX4_otherOf 15 = .ok (.iaload, 1) := by decide +kernel
theorem dX4_otherOf_16 : decode cX4_otherOf 16 = .ok (.goto 9, 3) := by decide +kernel
theorem dX4_otherOf_19 : decode cX4_otherOf 19 = .ok (.aload_n 0, 1) := by decide +kernel
theorem dX4_otherOf_20 : decode cX4_otherOf 20 = .ok (.getfield 7, 3) := by decide +kernel
theorem dX4_otherOf_23 : decode cX4_otherOf 23 = .ok (.iload_n 1, 1) := by decide +kernel
theorem dX4_otherOf_24 : decode cX4_otherOf 24 = .ok (.iaload, 1) := by decide +kernel
theorem dX4_otherOf_25 : decode cX4_otherOf 25 = .ok (.ireturn, 1) := by decide +kernel
theorem dX4_link_0 : decode cX4_link 0 = .ok (.iload_n 1, 1) := by decide +kernel
theorem dX4_link_1 : decode cX4_link 1 = .ok (.invokestatic 88, 3) := by decide +kernel
theorem dX4_link_4 : decode cX4_link 4 = .ok (.ifCond .eq 10, 3) := by decide +kernel
theorem dX4_link_7 : decode cX4_link 7 = .ok (.iload_n 2, 1) := by decide +kernel
theorem dX4_link_8 : decode cX4_link 8 = .ok (.invokestatic 88, 3) := by decide +kernel
theorem dX4_link_11 : decode cX4_link 11 = .ok (.ifCond .ne 5, 3) := by decide +kernel
theorem dX4_link_14 : decode cX4_link 14 = .ok (.iconst (-1), 1) := by decide +kernel
theorem dX4_link_15 : decode cX4_link 15 = .ok (.ireturn, 1) := by decide +kernel
theorem dX4_link_16 : decode cX4_link 16 = .ok (.iload_n 3, 1) := by decide +kernel
theorem dX4_link_17 : decode cX4_link 17 = .ok (.iconst 1, 1) := by decide +kernel
theorem dX4_link_18 : decode cX4_link 18 = .ok (.bipush 9, 2) := by decide +kernel
theorem dX4_link_20 : decode cX4_link 20 = .ok (.invokestatic 80, 3) := by decide +kernel
theorem dX4_link_23 : decode cX4_link 23 = .ok (.ifCond .ne 6, 3) := by decide +kernel
theorem dX4_link_26 : decode cX4_link 26 = .ok (.bipush (-2), 2) := by decide +kernel
theorem dX4_link_28 : decode cX4_link 28 = .ok (.ireturn, 1) := by decide +kernel
theorem dX4_link_29 : decode cX4_link 29 = .ok (.iload_n 1, 1) := by decide +kernel
theorem dX4_link_30 : decode cX4_link 30 = .ok (.iload_n 2, 1) := by decide +kernel
theorem dX4_link_31 : decode cX4_link 31 = .ok (.if_icmp .eq 14, 3) := by decide +kernel
theorem dX4_link_34 : decode cX4_link 34 = .ok (.aload_n 0, 1) := by decide +kernel
theorem dX4_link_35 : decode cX4_link 35 = .ok (.iload_n 1, 1) := by decide +kernel
theorem dX4_link_36 : decode cX4_link 36 = .ok (.iload_n 2, 1) := by decide +kernel
theorem dX4_link_37 : decode cX4_link 37 = .ok (.invokevirtual 92, 3) := by decide +kernel
theorem dX4_link_40 : decode cX4_link 40 = .ok (.bipush (-9), 2) := by decide +kernel
theorem dX4_link_42 : decode cX4_link 42 = .ok (.if_icmp .eq 6, 3) := by decide +kernel
theorem dX4_link_45 : decode cX4_link 45 = .ok (.bipush (-3), 2) := by decide +kernel
theorem dX4_link_47 : decode cX4_link 47 = .ok (.ireturn, 1) := by decide +kernel
theorem dX4_link_48 : decode cX4_link 48 = .ok (.aload_n 0, 1) := by decide +kernel
theorem dX4_link_49 : decode cX4_link 49 = .ok (.getfield 84, 3) := by decide +kernel
theorem dX4_link_52 : decode cX4_link 52 = .ok (.bipush 12, 2) := by decide +kernel
theorem dX4_link_54 : decode cX4_link 54 = .ok (.if_icmp .ne 6, 3) := by decide +kernel
theorem dX4_link_57 : decode cX4_link 57 = .ok (.bipush (-4), 2) := by decide +kernel
theorem dX4_link_59 : decode cX4_link 59 = .ok (.ireturn, 1) := by decide +kernel
theorem dX4_link_60 : decode cX4_link 60 = .ok (.aload_n 0, 1) := by decide +kernel
theorem dX4_link_61 : decode cX4_link 61 = .ok (.getfield 7, 3) := by decide +kernel
theorem dX4_link_64 : decode cX4_link 64 = .ok (.aload_n 0, 1) := by decide +kernel
theorem dX4_link_65 : decode cX4_link 65 = .ok (.getfield 84, 3) := by decide +kernel
theorem dX4_link_68 : decode cX4_link 68 = .ok (.iload_n 1, 1) := by decide +kernel
theorem dX4_link_69 : decode cX4_link 69 = .ok (.iload_n 2, 1) := by decide +kernel
theorem dX4_link_70 : decode cX4_link 70 = .ok (.if_icmp .ge 7, 3) := by decide +kernel
theorem dX4_link_73 : decode cX4_link 73 = .ok (.iload_n 1, 1) := by decide +kernel
theorem dX4_link_74 : decode cX4_link 74 = .ok (.goto 4, 3) := by decide +kernel
theorem dX4_link_77 : decode cX4_link 77 = .ok (.iload_n 2, 1) := by decide +kernel
theorem dX4_link_78 : decode cX4_link 78 = .ok (.iastore, 1) := by decide +kernel
theorem dX4_link_79 : decode cX4_link 79 = .ok (.aload_n 0, 1) := by decide +kernel
theorem dX4_link_80 : decode cX4_link 80 = .ok (.getfield 13, 3) := by decide +kernel
theorem dX4_link_83 : decode cX4_link 83 = .ok (.aload_n 0, 1) := by decide +kernel
theorem dX4_link_84 : decode cX4_link 84 = .ok (.getfield 84, 3) := by decide +kernel
theorem dX4_link_87 : decode cX4_link 87 = .ok (.iload_n 1, 1) := by decide +kernel
theorem dX4_link_88 : decode cX4_link 88 = .ok (.iload_n 2, 1) := by decide +kernel
theorem dX4_link_89 : decode cX4_link 89 = .ok (.if_icmp .ge 7, 3) := by decide +kernel
theorem dX4_link_92 : decode cX4_link 92 = .ok (.iload_n 2, 1) := by decide +kernel
theorem dX4_link_93 : decode cX4_link 93 = .ok (.goto 4, 3) := by decide +kernel
theorem dX4_link_96 : decode cX4_link 96 = .ok (.iload_n 1, 1) := by decide +kernel
theorem dX4_link_97 : decode cX4_link 97 = .ok (.iastore, 1) := by decide +kernel
theorem dX4_link_98 : decode cX4_link 98 = .ok (.aload_n 0, 1) := by decide +kernel
theorem dX4_link_99 : decode cX4_link 99 = .ok (.getfield 16, 3) := by decide +kernel
theorem dX4_link_102 : decode cX4_link 102 = .ok (.aload_n 0, 1) := by decide +kernel
theorem dX4_link_103 : decode cX4_link 103 = .ok (.getfield 84, 3) := by decide +kernel
theorem dX4_link_106 : decode cX4_link 106 = .ok (.iload_n 3, 1) := by decide +kernel
theorem dX4_link_107 : decode cX4_link 107 = .ok (.iastore, 1) := by decide +kernel
theorem dX4_link_108 : decode cX4_link 108 = .ok (.aload_n 0, 1) := by decide +kernel
theorem dX4_link_109 : decode cX4_link 109 = .ok (.getfield 19, 3) := by decide +kernel
theorem dX4_link_112 : decode cX4_link 112 = .ok (.aload_n 0, 1) := by decide +kernel
theorem dX4_link_113 : decode cX4_link 113 = .ok (.getfield 84, 3) := by decide +kernel
theorem dX4_link_116 : decode cX4_link 116 = .ok (.iconst 1, 1) := by decide +kernel
theorem dX4_link_117 : decode cX4_link 117 = .ok (.bastore, 1) := by decide +kernel
theorem dX4_link_118 : decode cX4_link 118 = .ok (.aload_n 0, 1) := by decide +kernel
theorem dX4_link_119 : decode cX4_link 119 = .ok (.dup, 1) := by decide +kernel
theorem dX4_link_120 : decode cX4_link 120 = .ok (.getfield 84, 3) := by decide +kernel
theorem dX4_link_123 : decode cX4_link 123 = .ok (.iconst 1, 1) := by decide +kernel
theorem dX4_link_124 : decode cX4_link 124 = .ok (.iadd, 1) := by decide +kernel
theorem dX4_link_125 : decode cX4_link 125 = .ok (.putfield 84, 3) := by decide +kernel
theorem dX4_link_128 : decode cX4_link 128 = .ok (.aload_n 0, 1) := by decide +kernel
theorem dX4_link_129 : decode cX4_link 129 = .ok (.getfield 84, 3) := by decide +kernel
theorem dX4_link_132 : decode cX4_link 132 = .ok (.iconst 1, 1) := by decide +kernel
theorem dX4_link_133 : decode cX4_link 133 = .ok (.isub, 1) := by decide +kernel
theorem dX4_link_134 : decode cX4_link 134 = .ok (.ireturn, 1) := by decide +kernel
theorem dX4_cost_0 : decode cX4_cost 0 = .ok (.aload_n 0, 1) := by decide +kernel
theorem dX4_cost_1 : decode cX4_cost 1 = .ok (.iload_n 1, 1) := by decide +kernel
theorem dX4_cost_2 : decode cX4_cost 2 = .ok (.invokevirtual 96, 3) := by decide +kernel
theorem dX4_cost_5 : decode cX4_cost 5 = .ok (.ifCond .ne 5, 3) := by decide +kernel
theorem dX4_cost_8 : decode cX4_cost 8 = .ok (.iconst (-1), 1) := by decide +kernel
