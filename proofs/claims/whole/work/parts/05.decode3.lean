theorem dX4_cost_9 : decode cX4_cost 9 = .ok (.ireturn, 1) := by decide +kernel
theorem dX4_cost_10 : decode cX4_cost 10 = .ok (.iload_n 2, 1) := by decide +kernel
theorem dX4_cost_11 : decode cX4_cost 11 = .ok (.iconst 1, 1) := by decide +kernel
theorem dX4_cost_12 : decode cX4_cost 12 = .ok (.bipush 9, 2) := by decide +kernel
theorem dX4_cost_14 : decode cX4_cost 14 = .ok (.invokestatic 80, 3) := by decide +kernel
theorem dX4_cost_17 : decode cX4_cost 17 = .ok (.ifCond .ne 6, 3) := by decide +kernel
theorem dX4_cost_20 : decode cX4_cost 20 = .ok (.bipush (-2), 2) := by decide +kernel
theorem dX4_cost_22 : decode cX4_cost 22 = .ok (.ireturn, 1) := by decide +kernel
theorem dX4_cost_23 : decode cX4_cost 23 = .ok (.aload_n 0, 1) := by decide +kernel
theorem dX4_cost_24 : decode cX4_cost 24 = .ok (.getfield 16, 3) := by decide +kernel
theorem dX4_cost_27 : decode cX4_cost 27 = .ok (.iload_n 1, 1) := by decide +kernel
theorem dX4_cost_28 : decode cX4_cost 28 = .ok (.iaload, 1) := by decide +kernel
theorem dX4_cost_29 : decode cX4_cost 29 = .ok (.istore_n 3, 1) := by decide +kernel
theorem dX4_cost_30 : decode cX4_cost 30 = .ok (.aload_n 0, 1) := by decide +kernel
theorem dX4_cost_31 : decode cX4_cost 31 = .ok (.getfield 16, 3) := by decide +kernel
theorem dX4_cost_34 : decode cX4_cost 34 = .ok (.iload_n 1, 1) := by decide +kernel
theorem dX4_cost_35 : decode cX4_cost 35 = .ok (.iload_n 2, 1) := by decide +kernel
theorem dX4_cost_36 : decode cX4_cost 36 = .ok (.iastore, 1) := by decide +kernel
theorem dX4_cost_37 : decode cX4_cost 37 = .ok (.iload_n 3, 1) := by decide +kernel
theorem dX4_cost_38 : decode cX4_cost 38 = .ok (.ireturn, 1) := by decide +kernel
theorem dX4_up_0 : decode cX4_up 0 = .ok (.aload_n 0, 1) := by decide +kernel
theorem dX4_up_1 : decode cX4_up 1 = .ok (.iload_n 1, 1) := by decide +kernel
theorem dX4_up_2 : decode cX4_up 2 = .ok (.invokevirtual 96, 3) := by decide +kernel
theorem dX4_up_5 : decode cX4_up 5 = .ok (.ifCond .ne 5, 3) := by decide +kernel
theorem dX4_up_8 : decode cX4_up 8 = .ok (.iconst (-1), 1) := by decide +kernel
theorem dX4_up_9 : decode cX4_up 9 = .ok (.ireturn, 1) := by decide +kernel
theorem dX4_up_10 : decode cX4_up 10 = .ok (.iload_n 2, 1) := by decide +kernel
theorem dX4_up_11 : decode cX4_up 11 = .ok (.iconst 0, 1) := by decide +kernel
theorem dX4_up_12 : decode cX4_up 12 = .ok (.iconst 1, 1) := by decide +kernel
theorem dX4_up_13 : decode cX4_up 13 = .ok (.invokestatic 80, 3) := by decide +kernel
theorem dX4_up_16 : decode cX4_up 16 = .ok (.ifCond .ne 6, 3) := by decide +kernel
theorem dX4_up_19 : decode cX4_up 19 = .ok (.bipush (-2), 2) := by decide +kernel
theorem dX4_up_21 : decode cX4_up 21 = .ok (.ireturn, 1) := by decide +kernel
theorem dX4_up_22 : decode cX4_up 22 = .ok (.aload_n 0, 1) := by decide +kernel
theorem dX4_up_23 : decode cX4_up 23 = .ok (.getfield 19, 3) := by decide +kernel
theorem dX4_up_26 : decode cX4_up 26 = .ok (.iload_n 1, 1) := by decide +kernel
theorem dX4_up_27 : decode cX4_up 27 = .ok (.baload, 1) := by decide +kernel
theorem dX4_up_28 : decode cX4_up 28 = .ok (.ifCond .eq 7, 3) := by decide +kernel
theorem dX4_up_31 : decode cX4_up 31 = .ok (.iconst 1, 1) := by decide +kernel
theorem dX4_up_32 : decode cX4_up 32 = .ok (.goto 4, 3) := by decide +kernel
theorem dX4_up_35 : decode cX4_up 35 = .ok (.iconst 0, 1) := by decide +kernel
theorem dX4_up_36 : decode cX4_up 36 = .ok (.istore_n 3, 1) := by decide +kernel
theorem dX4_up_37 : decode cX4_up 37 = .ok (.aload_n 0, 1) := by decide +kernel
theorem dX4_up_38 : decode cX4_up 38 = .ok (.getfield 19, 3) := by decide +kernel
theorem dX4_up_41 : decode cX4_up 41 = .ok (.iload_n 1, 1) := by decide +kernel
theorem dX4_up_42 : decode cX4_up 42 = .ok (.iload_n 2, 1) := by decide +kernel
theorem dX4_up_43 : decode cX4_up 43 = .ok (.iconst 1, 1) := by decide +kernel
theorem dX4_up_44 : decode cX4_up 44 = .ok (.if_icmp .ne 7, 3) := by decide +kernel
theorem dX4_up_47 : decode cX4_up 47 = .ok (.iconst 1, 1) := by decide +kernel
theorem dX4_up_48 : decode cX4_up 48 = .ok (.goto 4, 3) := by decide +kernel
theorem dX4_up_51 : decode cX4_up 51 = .ok (.iconst 0, 1) := by decide +kernel
theorem dX4_up_52 : decode cX4_up 52 = .ok (.bastore, 1) := by decide +kernel
theorem dX4_up_53 : decode cX4_up 53 = .ok (.iconst 0, 1) := by decide +kernel
theorem dX4_up_54 : decode cX4_up 54 = .ok (.istore 4, 2) := by decide +kernel
theorem dX4_up_56 : decode cX4_up 56 = .ok (.iload 4, 2) := by decide +kernel
theorem dX4_up_58 : decode cX4_up 58 = .ok (.sipush 336, 3) := by decide +kernel
theorem dX4_up_61 : decode cX4_up 61 = .ok (.if_icmp .ge 40, 3) := by decide +kernel
theorem dX4_up_64 : decode cX4_up 64 = .ok (.iload_n 2, 1) := by decide +kernel
theorem dX4_up_65 : decode cX4_up 65 = .ok (.ifCond .ne 36, 3) := by decide +kernel
theorem dX4_up_68 : decode cX4_up 68 = .ok (.iload 4, 2) := by decide +kernel
theorem dX4_up_70 : decode cX4_up 70 = .ok (.iconst 4, 1) := by decide +kernel
theorem dX4_up_71 : decode cX4_up 71 = .ok (.idiv, 1) := by decide +kernel
theorem dX4_up_72 : decode cX4_up 72 = .ok (.bipush 12, 2) := by decide +kernel
theorem dX4_up_74 : decode cX4_up 74 = .ok (.irem, 1) := by decide +kernel
theorem dX4_up_75 : decode cX4_up 75 = .ok (.iload_n 1, 1) := by decide +kernel
theorem dX4_up_76 : decode cX4_up 76 = .ok (.if_icmp .ne 19, 3) := by decide +kernel
theorem dX4_up_79 : decode cX4_up 79 = .ok (.aload_n 0, 1) := by decide +kernel
theorem dX4_up_80 : decode cX4_up 80 = .ok (.getfield 35, 3) := by decide +kernel
theorem dX4_up_83 : decode cX4_up 83 = .ok (.iload 4, 2) := by decide +kernel
theorem dX4_up_85 : decode cX4_up 85 = .ok (.iconst 0, 1) := by decide +kernel
theorem dX4_up_86 : decode cX4_up 86 = .ok (.iastore, 1) := by decide +kernel
theorem dX4_up_87 : decode cX4_up 87 = .ok (.aload_n 0, 1) := by decide +kernel
theorem dX4_up_88 : decode cX4_up 88 = .ok (.getfield 41, 3) := by decide +kernel
theorem dX4_up_91 : decode cX4_up 91 = .ok (.iload 4, 2) := by decide +kernel
theorem dX4_up_93 : decode cX4_up 93 = .ok (.iconst 0, 1) := by decide +kernel
theorem dX4_up_94 : decode cX4_up 94 = .ok (.iastore, 1) := by decide +kernel
theorem dX4_up_95 : decode cX4_up 95 = .ok (.iinc 4 1, 3) := by decide +kernel
theorem dX4_up_98 : decode cX4_up 98 = .ok (.goto (-42), 3) := by decide +kernel
theorem dX4_up_101 : decode cX4_up 101 = .ok (.iload_n 3, 1) := by decide +kernel
theorem dX4_up_102 : decode cX4_up 102 = .ok (.ireturn, 1) := by decide +kernel
theorem dX4_end_0 : decode cX4_end 0 = .ok (.iload_n 1, 1) := by decide +kernel
theorem dX4_end_1 : decode cX4_end 1 = .ok (.invokestatic 99, 3) := by decide +kernel
theorem dX4_end_4 : decode cX4_end 4 = .ok (.ifCond .ne 5, 3) := by decide +kernel
theorem dX4_end_7 : decode cX4_end 7 = .ok (.iconst (-1), 1) := by decide +kernel
theorem dX4_end_8 : decode cX4_end 8 = .ok (.ireturn, 1) := by decide +kernel
theorem dX4_end_9 : decode cX4_end 9 = .ok (.iload_n 2, 1) := by decide +kernel
theorem dX4_end_10 : decode cX4_end 10 = .ok (.bipush (-9), 2) := by decide +kernel
theorem dX4_end_12 : decode cX4_end 12 = .ok (.if_icmp .eq 13, 3) := by decide +kernel
theorem dX4_end_15 : decode cX4_end 15 = .ok (.iload_n 2, 1) := by decide +kernel
theorem dX4_end_16 : decode cX4_end 16 = .ok (.invokestatic 88, 3) := by decide +kernel
theorem dX4_end_19 : decode cX4_end 19 = .ok (.ifCond .ne 6, 3) := by decide +kernel
theorem dX4_end_22 : decode cX4_end 22 = .ok (.bipush (-2), 2) := by decide +kernel
theorem dX4_end_24 : decode cX4_end 24 = .ok (.ireturn, 1) := by decide +kernel
theorem dX4_end_25 : decode cX4_end 25 = .ok (.aload_n 0, 1) := by decide +kernel
theorem dX4_end_26 : decode cX4_end 26 = .ok (.getfield 23, 3) := by decide +kernel
theorem dX4_end_29 : decode cX4_end 29 = .ok (.iload_n 1, 1) := by decide +kernel
theorem dX4_end_30 : decode cX4_end 30 = .ok (.iaload, 1) := by decide +kernel
theorem dX4_end_31 : decode cX4_end 31 = .ok (.istore_n 3, 1) := by decide +kernel
theorem dX4_end_32 : decode cX4_end 32 = .ok (.aload_n 0, 1) := by decide +kernel
theorem dX4_end_33 : decode cX4_end 33 = .ok (.getfield 23, 3) := by decide +kernel
theorem dX4_end_36 : decode cX4_end 36 = .ok (.iload_n 1, 1) := by decide +kernel
theorem dX4_end_37 : decode cX4_end 37 = .ok (.iload_n 2, 1) := by decide +kernel
theorem dX4_end_38 : decode cX4_end 38 = .ok (.iastore, 1) := by decide +kernel
theorem dX4_end_39 : decode cX4_end 39 = .ok (.iload_n 3, 1) := by decide +kernel
theorem dX4_end_40 : decode cX4_end 40 = .ok (.ireturn, 1) := by decide +kernel
theorem dX4_ofLink_0 : decode cX4_ofLink 0 = .ok (.aload_n 0, 1) := by decide +kernel
theorem dX4_ofLink_1 : decode cX4_ofLink 1 = .ok (.iload_n 1, 1) := by decide +kernel
theorem dX4_ofLink_2 : decode cX4_ofLink 2 = .ok (.invokevirtual 96, 3) := by decide +kernel
theorem dX4_ofLink_5 : decode cX4_ofLink 5 = .ok (.ifCond .ne 5, 3) := by decide +kernel
theorem dX4_ofLink_8 : decode cX4_ofLink 8 = .ok (.iconst (-1), 1) := by decide +kernel
theorem dX4_ofLink_9 : decode cX4_ofLink 9 = .ok (.ireturn, 1) := by decide +kernel
theorem dX4_ofLink_10 : decode cX4_ofLink 10 = .ok (.iload_n 2, 1) := by decide +kernel
theorem dX4_ofLink_11 : decode cX4_ofLink 11 = .ok (.tableswitch 65 0 3 #[29, 36, 43, 50], 29) := by decide +kernel
theorem dX4_ofLink_40 : decode cX4_ofLink 40 = .ok (.aload_n 0, 1) := by decide +kernel
theorem dX4_ofLink_41 : decode cX4_ofLink 41 = .ok (.getfield 7, 3) := by decide +kernel
theorem dX4_ofLink_44 : decode cX4_ofLink 44 = .ok (.iload_n 1, 1) := by decide +kernel
theorem dX4_ofLink_45 : decode cX4_ofLink 45 = .ok (.iaload, 1) := by decide +kernel
theorem dX4_ofLink_46 : decode cX4_ofLink 46 = .ok (.ireturn, 1) := by decide +kernel
theorem dX4_ofLink_47 : decode cX4_ofLink 47 = .ok (.aload_n 0, 1) := by decide +kernel
theorem dX4_ofLink_48 : decode cX4_ofLink 48 = .ok (.getfield 13, 3) := by decide +kernel
theorem dX4_ofLink_51 : decode cX4_ofLink 51 = .ok (.iload_n 1, 1) := by decide +kernel
theorem dX4_ofLink_52 : decode cX4_ofLink 52 = .ok (.iaload, 1) := by decide +kernel
theorem dX4_ofLink_53 : decode cX4_ofLink 53 = .ok (.ireturn, 1) := by decide +kernel
theorem dX4_ofLink_54 : decode cX4_ofLink 54 = .ok (.aload_n 0, 1) := by decide +kernel
theorem dX4_ofLink_55 : decode cX4_ofLink 55 = .ok (.getfield 16, 3) := by decide +kernel
theorem dX4_ofLink_58 : decode cX4_ofLink 58 = .ok (.iload_n 1, 1) := by decide +kernel
theorem dX4_ofLink_59 : decode cX4_ofLink 59 = .ok (.iaload, 1) := by decide +kernel
theorem dX4_ofLink_60 : decode cX4_ofLink 60 = .ok (.ireturn, 1) := by decide +kernel
theorem dX4_ofLink_61 : decode cX4_ofLink 61 = .ok (.aload_n 0, 1) := by decide +kernel
theorem dX4_ofLink_62 : decode cX4_ofLink 62 = .ok (.getfield 19, 3) := by decide +kernel
theorem dX4_ofLink_65 : decode cX4_ofLink 65 = .ok (.iload_n 1, 1) := by decide +kernel
theorem dX4_ofLink_66 : decode cX4_ofLink 66 = .ok (.baload, 1) := by decide +kernel
theorem dX4_ofLink_67 : decode cX4_ofLink 67 = .ok (.ifCond .eq 7, 3) := by decide +kernel
theorem dX4_ofLink_70 : decode cX4_ofLink 70 = .ok (.iconst 1, 1) := by decide +kernel
theorem dX4_ofLink_71 : decode cX4_ofLink 71 = .ok (.goto 4, 3) := by decide +kernel
theorem dX4_ofLink_74 : decode cX4_ofLink 74 = .ok (.iconst 0, 1) := by decide +kernel
theorem dX4_ofLink_75 : decode cX4_ofLink 75 = .ok (.ireturn, 1) := by decide +kernel
theorem dX4_ofLink_76 : decode cX4_ofLink 76 = .ok (.bipush (-2), 2) := by decide +kernel
theorem dX4_ofLink_78 : decode cX4_ofLink 78 = .ok (.ireturn, 1) := by decide +kernel
theorem dX4_findFar_0 : decode cX4_findFar 0 = .ok (.iconst 0, 1) := by decide +kernel
theorem dX4_findFar_1 : decode cX4_findFar 1 = .ok (.istore_n 2, 1) := by decide +kernel
theorem dX4_findFar_2 : decode cX4_findFar 2 = .ok (.iload_n 2, 1) := by decide +kernel
theorem dX4_findFar_3 : decode cX4_findFar 3 = .ok (.bipush 7, 2) := by decide +kernel
theorem dX4_findFar_5 : decode cX4_findFar 5 = .ok (.if_icmp .ge 32, 3) := by decide +kernel
theorem dX4_findFar_8 : decode cX4_findFar 8 = .ok (.aload_n 0, 1) := by decide +kernel
theorem dX4_findFar_9 : decode cX4_findFar 9 = .ok (.getfield 26, 3) := by decide +kernel
theorem dX4_findFar_12 : decode cX4_findFar 12 = .ok (.iload_n 2, 1) := by decide +kernel
theorem dX4_findFar_13 : decode cX4_findFar 13 = .ok (.aload_n 0, 1) := by decide +kernel
theorem dX4_findFar_14 : decode cX4_findFar 14 = .ok (.getfield 23, 3) := by decide +kernel
theorem dX4_findFar_17 : decode cX4_findFar 17 = .ok (.iload_n 1, 1) := by decide +kernel
theorem dX4_findFar_18 : decode cX4_findFar 18 = .ok (.iaload, 1) := by decide +kernel
theorem dX4_findFar_19 : decode cX4_findFar 19 = .ok (.iload_n 2, 1) := by decide +kernel
theorem dX4_findFar_20 : decode cX4_findFar 20 = .ok (.if_icmp .ne 7, 3) := by decide +kernel
theorem dX4_findFar_23 : decode cX4_findFar 23 = .ok (.iconst 0, 1) := by decide +kernel
theorem dX4_findFar_24 : decode cX4_findFar 24 = .ok (.goto 6, 3) := by decide +kernel
theorem dX4_findFar_27 : decode cX4_findFar 27 = .ok (.sipush 1000, 3) := by decide +kernel
theorem dX4_findFar_30 : decode cX4_findFar 30 = .ok (.iastore, 1) := by decide +kernel
theorem dX4_findFar_31 : decode cX4_findFar 31 = .ok (.iinc 2 1, 3) := by decide +kernel
theorem dX4_findFar_34 : decode cX4_findFar 34 = .ok (.goto (-32), 3) := by decide +kernel
theorem dX4_findFar_37 : decode cX4_findFar 37 = .ok (.iconst 1, 1) := by decide +kernel
theorem dX4_findFar_38 : decode cX4_findFar 38 = .ok (.istore_n 2, 1) := by decide +kernel
theorem dX4_findFar_39 : decode cX4_findFar 39 = .ok (.iload_n 2, 1) := by decide +kernel
theorem dX4_findFar_40 : decode cX4_findFar 40 = .ok (.ifCond .eq 152, 3) := by decide +kernel
theorem dX4_findFar_43 : decode cX4_findFar 43 = .ok (.iconst 0, 1) := by decide +kernel
theorem dX4_findFar_44 : decode cX4_findFar 44 = .ok (.istore_n 2, 1) := by decide +kernel
theorem dX4_findFar_45 : decode cX4_findFar 45 = .ok (.iconst 0, 1) := by decide +kernel
theorem dX4_findFar_46 : decode cX4_findFar 46 = .ok (.istore_n 3, 1) := by decide +kernel
theorem dX4_findFar_47 : decode cX4_findFar 47 = .ok (.iload_n 3, 1) := by decide +kernel
theorem dX4_findFar_48 : decode cX4_findFar 48 = .ok (.aload_n 0, 1) := by decide +kernel
theorem dX4_findFar_49 : decode cX4_findFar 49 = .ok (.getfield 84, 3) := by decide +kernel
theorem dX4_findFar_52 : decode cX4_findFar 52 = .ok (.if_icmp .ge 137, 3) := by decide +kernel
theorem dX4_findFar_55 : decode cX4_findFar 55 = .ok (.aload_n 0, 1) := by decide +kernel
theorem dX4_findFar_56 : decode cX4_findFar 56 = .ok (.getfield 7, 3) := by decide +kernel
theorem dX4_findFar_59 : decode cX4_findFar 59 = .ok (.iload_n 3, 1) := by decide +kernel
theorem dX4_findFar_60 : decode cX4_findFar 60 = .ok (.iaload, 1) := by decide +kernel
theorem dX4_findFar_61 : decode cX4_findFar 61 = .ok (.istore 4, 2) := by decide +kernel
theorem dX4_findFar_63 : decode cX4_findFar 63 = .ok (.aload_n 0, 1) := by decide +kernel
theorem dX4_findFar_64 : decode cX4_findFar 64 = .ok (.getfield 13, 3) := by decide +kernel
theorem dX4_findFar_67 : decode cX4_findFar 67 = .ok (.iload_n 3, 1) := by decide +kernel
theorem dX4_findFar_68 : decode cX4_findFar 68 = .ok (.iaload, 1) := by decide +kernel
theorem dX4_findFar_69 : decode cX4_findFar 69 = .ok (.istore 5, 2) := by decide +kernel
theorem dX4_findFar_71 : decode cX4_findFar 71 = .ok (.aload_n 0, 1) := by decide +kernel
theorem dX4_findFar_72 : decode cX4_findFar 72 = .ok (.getfield 19, 3) := by decide +kernel
theorem dX4_findFar_75 : decode cX4_findFar 75 = .ok (.iload_n 3, 1) := by decide +kernel
theorem dX4_findFar_76 : decode cX4_findFar 76 = .ok (.baload, 1) := by decide +kernel
theorem dX4_findFar_77 : decode cX4_findFar 77 = .ok (.ifCond .eq 50, 3) := by decide +kernel
theorem dX4_findFar_80 : decode cX4_findFar 80 = .ok (.aload_n 0, 1) := by decide +kernel
theorem dX4_findFar_81 : decode cX4_findFar 81 = .ok (.getfield 26, 3) := by decide +kernel
theorem dX4_findFar_84 : decode cX4_findFar 84 = .ok (.iload 4, 2) := by decide +kernel
theorem dX4_findFar_86 : decode cX4_findFar 86 = .ok (.iaload, 1) := by decide +kernel
theorem dX4_findFar_87 : decode cX4_findFar 87 = .ok (.aload_n 0, 1) := by decide +kernel
theorem dX4_findFar_88 : decode cX4_findFar 88 = .ok (.getfield 16, 3) := by decide +kernel
theorem dX4_findFar_91 : decode cX4_findFar 91 = .ok (.iload_n 3, 1) := by decide +kernel
theorem dX4_findFar_92 : decode cX4_findFar 92 = .ok (.iaload, 1) := by decide +kernel
theorem dX4_findFar_93 : decode cX4_findFar 93 = .ok (.iadd, 1) := by decide +kernel
theorem dX4_findFar_94 : decode cX4_findFar 94 = .ok (.aload_n 0, 1) := by decide +kernel
theorem dX4_findFar_95 : decode cX4_findFar 95 = .ok (.getfield 26, 3) := by decide +kernel
theorem dX4_findFar_98 : decode cX4_findFar 98 = .ok (.iload 5, 2) := by decide +kernel
theorem dX4_findFar_100 : decode cX4_findFar 100 = .ok (.iaload, 1) := by decide +kernel
theorem dX4_findFar_101 : decode cX4_findFar 101 = .ok (.if_icmp .ge 26, 3) := by decide +kernel
theorem dX4_findFar_104 : decode cX4_findFar 104 = .ok (.aload_n 0, 1) := by decide +kernel
theorem dX4_findFar_105 : decode cX4_findFar 105 = .ok (.getfield 26, 3) := by decide +kernel
theorem dX4_findFar_108 : decode cX4_findFar 108 = .ok (.iload 5, 2) := by decide +kernel
theorem dX4_findFar_110 : decode cX4_findFar 110 = .ok (.aload_n 0, 1) := by decide +kernel
theorem dX4_findFar_111 : decode cX4_findFar 111 = .ok (.getfield 26, 3) := by decide +kernel
theorem dX4_findFar_114 : decode cX4_findFar 114 = .ok (.iload 4, 2) := by decide +kernel
theorem dX4_findFar_116 : decode cX4_findFar 116 = .ok (.iaload, 1) := by decide +kernel
theorem dX4_findFar_117 : decode cX4_findFar 117 = .ok (.aload_n 0, 1) := by decide +kernel
theorem dX4_findFar_118 : decode cX4_findFar 118 = .ok (.getfield 16, 3) := by decide +kernel
theorem dX4_findFar_121 : decode cX4_findFar 121 = .ok (.iload_n 3, 1) := by decide +kernel
theorem dX4_findFar_122 : decode cX4_findFar 122 = .ok (.iaload, 1) := by decide +kernel
theorem dX4_findFar_123 : decode cX4_findFar 123 = .ok (.iadd, 1) := by decide +kernel
theorem dX4_findFar_124 : decode cX4_findFar 124 = .ok (.iastore, 1) := by decide +kernel
theorem dX4_findFar_125 : decode cX4_findFar 125 = .ok (.iconst 1, 1) := by decide +kernel
theorem dX4_findFar_126 : decode cX4_findFar 126 = .ok (.istore_n 2, 1) := by decide +kernel
theorem dX4_findFar_127 : decode cX4_findFar 127 = .ok (.aload_n 0, 1) := by decide +kernel
theorem dX4_findFar_128 : decode cX4_findFar 128 = .ok (.getfield 19, 3) := by decide +kernel
theorem dX4_findFar_131 : decode cX4_findFar 131 = .ok (.iload_n 3, 1) := by decide +kernel
theorem dX4_findFar_132 : decode cX4_findFar 132 = .ok (.baload, 1) := by decide +kernel
theorem dX4_findFar_133 : decode cX4_findFar 133 = .ok (.ifCond .eq 50, 3) := by decide +kernel
theorem dX4_findFar_136 : decode cX4_findFar 136 = .ok (.aload_n 0, 1) := by decide +kernel
theorem dX4_findFar_137 : decode cX4_findFar 137 = .ok (.getfield 26, 3) := by decide +kernel
theorem dX4_findFar_140 : decode cX4_findFar 140 = .ok (.iload 5, 2) := by decide +kernel
theorem dX4_findFar_142 : decode cX4_findFar 142 = .ok (.iaload, 1) := by decide +kernel
theorem dX4_findFar_143 : decode cX4_findFar 143 = .ok (.aload_n 0, 1) := by decide +kernel
theorem dX4_findFar_144 : decode cX4_findFar 144 = .ok (.getfield 16, 3) := by decide +kernel
theorem dX4_findFar_147 : decode cX4_findFar 147 = .ok (.iload_n 3, 1) := by decide +kernel
theorem dX4_findFar_148 : decode cX4_findFar 148 = .ok (.iaload, 1) := by decide +kernel
theorem dX4_findFar_149 : decode cX4_findFar 149 = .ok (.iadd, 1) := by decide +kernel
theorem dX4_findFar_150 : decode cX4_findFar 150 = .ok (.aload_n 0, 1) := by decide +kernel
theorem dX4_findFar_151 : decode cX4_findFar 151 = .ok (.getfield 26, 3) := by decide +kernel
theorem dX4_findFar_154 : decode cX4_findFar 154 = .ok (.iload 4, 2) := by decide +kernel
theorem dX4_findFar_156 : decode cX4_findFar 156 = .ok (.iaload, 1) := by decide +kernel
theorem dX4_findFar_157 : decode cX4_findFar 157 = .ok (.if_icmp .ge 26, 3) := by decide +kernel
theorem dX4_findFar_160 : decode cX4_findFar 160 = .ok (.aload_n 0, 1) := by decide +kernel
theorem dX4_findFar_161 : decode cX4_findFar 161 = .ok (.getfield 26, 3) := by decide +kernel
theorem dX4_findFar_164 : decode cX4_findFar 164 = .ok (.iload 4, 2) := by decide +kernel
theorem dX4_findFar_166 : decode cX4_findFar 166 = .ok (.aload_n 0, 1) := by decide +kernel
theorem dX4_findFar_167 : decode cX4_findFar 167 = .ok (.getfield 26, 3) := by decide +kernel
theorem dX4_findFar_170 : decode cX4_findFar 170 = .ok (.iload 5, 2) := by decide +kernel
theorem dX4_findFar_172 : decode cX4_findFar 172 = .ok (.iaload, 1) := by decide +kernel
theorem dX4_findFar_173 : decode cX4_findFar 173 = .ok (.aload_n 0, 1) := by decide +kernel
theorem dX4_findFar_174 : decode cX4_findFar 174 = .ok (.getfield 16, 3) := by decide +kernel
theorem dX4_findFar_177 : decode cX4_findFar 177 = .ok (.iload_n 3, 1) := by decide +kernel
theorem dX4_findFar_178 : decode cX4_findFar 178 = .ok (.iaload, 1) := by decide +kernel
theorem dX4_findFar_179 : decode cX4_findFar 179 = .ok (.iadd, 1) := by decide +kernel
theorem dX4_findFar_180 : decode cX4_findFar 180 = .ok (.iastore, 1) := by decide +kernel
theorem dX4_findFar_181 : decode cX4_findFar 181 = .ok (.iconst 1, 1) := by decide +kernel
theorem dX4_findFar_182 : decode cX4_findFar 182 = .ok (.istore_n 2, 1) := by decide +kernel
theorem dX4_findFar_183 : decode cX4_findFar 183 = .ok (.iinc 3 1, 3) := by decide +kernel
theorem dX4_findFar_186 : decode cX4_findFar 186 = .ok (.goto (-139), 3) := by decide +kernel
theorem dX4_findFar_189 : decode cX4_findFar 189 = .ok (.goto (-150), 3) := by decide +kernel
theorem dX4_findFar_192 : decode cX4_findFar 192 = .ok (.return_, 1) := by decide +kernel
theorem dX4_nextOf_0 : decode cX4_nextOf 0 = .ok (.aload_n 0, 1) := by decide +kernel
theorem dX4_nextOf_1 : decode cX4_nextOf 1 = .ok (.iload_n 2, 1) := by decide +kernel
theorem dX4_nextOf_2 : decode cX4_nextOf 2 = .ok (.invokevirtual 102, 3) := by decide +kernel
theorem dX4_nextOf_5 : decode cX4_nextOf 5 = .ok (.iconst 0, 1) := by decide +kernel
theorem dX4_nextOf_6 : decode cX4_nextOf 6 = .ok (.istore_n 3, 1) := by decide +kernel
theorem dX4_nextOf_7 : decode cX4_nextOf 7 = .ok (.iload_n 3, 1) := by decide +kernel
theorem dX4_nextOf_8 : decode cX4_nextOf 8 = .ok (.bipush 7, 2) := by decide +kernel
theorem dX4_nextOf_10 : decode cX4_nextOf 10 = .ok (.if_icmp .ge 80, 3) := by decide +kernel
theorem dX4_nextOf_13 : decode cX4_nextOf 13 = .ok (.aload_n 0, 1) := by decide +kernel
theorem dX4_nextOf_14 : decode cX4_nextOf 14 = .ok (.getfield 26, 3) := by decide +kernel
theorem dX4_nextOf_17 : decode cX4_nextOf 17 = .ok (.iload_n 1, 1) := by decide +kernel
theorem dX4_nextOf_18 : decode cX4_nextOf 18 = .ok (.iaload, 1) := by decide +kernel
theorem dX4_nextOf_19 : decode cX4_nextOf 19 = .ok (.ifCond .le 71, 3) := by decide +kernel
theorem dX4_nextOf_22 : decode cX4_nextOf 22 = .ok (.aload_n 0, 1) := by decide +kernel
theorem dX4_nextOf_23 : decode cX4_nextOf 23 = .ok (.getfield 26, 3) := by decide +kernel
theorem dX4_nextOf_26 : decode cX4_nextOf 26 = .ok (.iload_n 1, 1) := by decide +kernel
theorem dX4_nextOf_27 : decode cX4_nextOf 27 = .ok (.iaload, 1) := by decide +kernel
theorem dX4_nextOf_28 : decode cX4_nextOf 28 = .ok (.sipush 1000, 3) := by decide +kernel
theorem dX4_nextOf_31 : decode cX4_nextOf 31 = .ok (.if_icmp .ge 59, 3) := by decide +kernel
theorem dX4_nextOf_34 : decode cX4_nextOf 34 = .ok (.aload_n 0, 1) := by decide +kernel
theorem dX4_nextOf_35 : decode cX4_nextOf 35 = .ok (.iload_n 1, 1) := by decide +kernel
theorem dX4_nextOf_36 : decode cX4_nextOf 36 = .ok (.iload_n 3, 1) := by decide +kernel
theorem dX4_nextOf_37 : decode cX4_nextOf 37 = .ok (.invokevirtual 92, 3) := by decide +kernel
theorem dX4_nextOf_40 : decode cX4_nextOf 40 = .ok (.istore 4, 2) := by decide +kernel
theorem dX4_nextOf_42 : decode cX4_nextOf 42 = .ok (.iload 4, 2) := by decide +kernel
theorem dX4_nextOf_44 : decode cX4_nextOf 44 = .ok (.bipush (-9), 2) := by decide +kernel
theorem dX4_nextOf_46 : decode cX4_nextOf 46 = .ok (.if_icmp .eq 38, 3) := by decide +kernel
theorem dX4_nextOf_49 : decode cX4_nextOf 49 = .ok (.aload_n 0, 1) := by decide +kernel
theorem dX4_nextOf_50 : decode cX4_nextOf 50 = .ok (.getfield 19, 3) := by decide +kernel
theorem dX4_nextOf_53 : decode cX4_nextOf 53 = .ok (.iload 4, 2) := by decide +kernel
theorem dX4_nextOf_55 : decode cX4_nextOf 55 = .ok (.baload, 1) := by decide +kernel
theorem dX4_nextOf_56 : decode cX4_nextOf 56 = .ok (.ifCond .eq 28, 3) := by decide +kernel
theorem dX4_nextOf_59 : decode cX4_nextOf 59 = .ok (.aload_n 0, 1) := by decide +kernel
theorem dX4_nextOf_60 : decode cX4_nextOf 60 = .ok (.getfield 26, 3) := by decide +kernel
theorem dX4_nextOf_63 : decode cX4_nextOf 63 = .ok (.iload_n 3, 1) := by decide +kernel
theorem dX4_nextOf_64 : decode cX4_nextOf 64 = .ok (.iaload, 1) := by decide +kernel
theorem dX4_nextOf_65 : decode cX4_nextOf 65 = .ok (.aload_n 0, 1) := by decide +kernel
theorem dX4_nextOf_66 : decode cX4_nextOf 66 = .ok (.getfield 16, 3) := by decide +kernel
theorem dX4_nextOf_69 : decode cX4_nextOf 69 = .ok (.iload 4, 2) := by decide +kernel
theorem dX4_nextOf_71 : decode cX4_nextOf 71 = .ok (.iaload, 1) := by decide +kernel
theorem dX4_nextOf_72 : decode cX4_nextOf 72 = .ok (.iadd, 1) := by decide +kernel
theorem dX4_nextOf_73 : decode cX4_nextOf 73 = .ok (.aload_n 0, 1) := by decide +kernel
theorem dX4_nextOf_74 : decode cX4_nextOf 74 = .ok (.getfield 26, 3) := by decide +kernel
theorem dX4_nextOf_77 : decode cX4_nextOf 77 = .ok (.iload_n 1, 1) := by decide +kernel
theorem dX4_nextOf_78 : decode cX4_nextOf 78 = .ok (.iaload, 1) := by decide +kernel
theorem dX4_nextOf_79 : decode cX4_nextOf 79 = .ok (.if_icmp .ne 5, 3) := by decide +kernel
theorem dX4_nextOf_82 : decode cX4_nextOf 82 = .ok (.iload_n 3, 1) := by decide +kernel
theorem dX4_nextOf_83 : decode cX4_nextOf 83 = .ok (.ireturn, 1) := by decide +kernel
theorem dX4_nextOf_84 : decode cX4_nextOf 84 = .ok (.iinc 3 1, 3) := by decide +kernel
theorem dX4_nextOf_87 : decode cX4_nextOf 87 = .ok (.goto (-80), 3) := by decide +kernel
theorem dX4_nextOf_90 : decode cX4_nextOf 90 = .ok (.bipush (-9), 2) := by decide +kernel
theorem dX4_nextOf_92 : decode cX4_nextOf 92 = .ok (.ireturn, 1) := by decide +kernel
theorem dX4_next_0 : decode cX4_next 0 = .ok (.iload_n 1, 1) := by decide +kernel
theorem dX4_next_1 : decode cX4_next 1 = .ok (.invokestatic 88, 3) := by decide +kernel
theorem dX4_next_4 : decode cX4_next 4 = .ok (.ifCond .eq 19, 3) := by decide +kernel
theorem dX4_next_7 : decode cX4_next 7 = .ok (.iload_n 2, 1) := by decide +kernel
theorem dX4_next_8 : decode cX4_next 8 = .ok (.invokestatic 99, 3) := by decide +kernel
theorem dX4_next_11 : decode cX4_next 11 = .ok (.ifCond .eq 12, 3) := by decide +kernel
theorem dX4_next_14 : decode cX4_next 14 = .ok (.aload_n 0, 1) := by decide +kernel
theorem dX4_next_15 : decode cX4_next 15 = .ok (.iload_n 1, 1) := by decide +kernel
theorem dX4_next_16 : decode cX4_next 16 = .ok (.iload_n 2, 1) := by decide +kernel
theorem dX4_next_17 : decode cX4_next 17 = .ok (.invokevirtual 106, 3) := by decide +kernel
theorem dX4_next_20 : decode cX4_next 20 = .ok (.goto 4, 3) := by decide +kernel
theorem dX4_next_23 : decode cX4_next 23 = .ok (.iconst (-1), 1) := by decide +kernel
theorem dX4_next_24 : decode cX4_next 24 = .ok (.ireturn, 1) := by decide +kernel
theorem dX4_far_0 : decode cX4_far 0 = .ok (.iload_n 1, 1) := by decide +kernel
theorem dX4_far_1 : decode cX4_far 1 = .ok (.invokestatic 88, 3) := by decide +kernel
theorem dX4_far_4 : decode cX4_far 4 = .ok (.ifCond .eq 10, 3) := by decide +kernel
theorem dX4_far_7 : decode cX4_far 7 = .ok (.iload_n 2, 1) := by decide +kernel
theorem dX4_far_8 : decode cX4_far 8 = .ok (.invokestatic 99, 3) := by decide +kernel
theorem dX4_far_11 : decode cX4_far 11 = .ok (.ifCond .ne 5, 3) := by decide +kernel
theorem dX4_far_14 : decode cX4_far 14 = .ok (.iconst (-1), 1) := by decide +kernel
theorem dX4_far_15 : decode cX4_far 15 = .ok (.ireturn, 1) := by decide +kernel
theorem dX4_far_16 : decode cX4_far 16 = .ok (.aload_n 0, 1) := by decide +kernel
theorem dX4_far_17 : decode cX4_far 17 = .ok (.iload_n 2, 1) := by decide +kernel
theorem dX4_far_18 : decode cX4_far 18 = .ok (.invokevirtual 102, 3) := by decide +kernel
theorem dX4_far_21 : decode cX4_far 21 = .ok (.aload_n 0, 1) := by decide +kernel
theorem dX4_far_22 : decode cX4_far 22 = .ok (.getfield 26, 3) := by decide +kernel
theorem dX4_far_25 : decode cX4_far 25 = .ok (.iload_n 1, 1) := by decide +kernel
theorem dX4_far_26 : decode cX4_far 26 = .ok (.iaload, 1) := by decide +kernel
theorem dX4_far_27 : decode cX4_far 27 = .ok (.sipush 1000, 3) := by decide +kernel
theorem dX4_far_30 : decode cX4_far 30 = .ok (.if_icmp .ge 12, 3) := by decide +kernel
theorem dX4_far_33 : decode cX4_far 33 = .ok (.aload_n 0, 1) := by decide +kernel
theorem dX4_far_34 : decode cX4_far 34 = .ok (.getfield 26, 3) := by decide +kernel
theorem dX4_far_37 : decode cX4_far 37 = .ok (.iload_n 1, 1) := by decide +kernel
theorem dX4_far_38 : decode cX4_far 38 = .ok (.iaload, 1) := by decide +kernel
theorem dX4_far_39 : decode cX4_far 39 = .ok (.goto 5, 3) := by decide +kernel
theorem dX4_far_42 : decode cX4_far 42 = .ok (.bipush (-9), 2) := by decide +kernel
theorem dX4_far_44 : decode cX4_far 44 = .ok (.ireturn, 1) := by decide +kernel
theorem dX4_at_0 : decode cX4_at 0 = .ok (.iconst 4, 1) := by decide +kernel
theorem dX4_at_1 : decode cX4_at 1 = .ok (.bipush 12, 2) := by decide +kernel
theorem dX4_at_3 : decode cX4_at 3 = .ok (.iload_n 0, 1) := by decide +kernel
theorem dX4_at_4 : decode cX4_at 4 = .ok (.imul, 1) := by decide +kernel
theorem dX4_at_5 : decode cX4_at 5 = .ok (.iload_n 1, 1) := by decide +kernel
theorem dX4_at_6 : decode cX4_at 6 = .ok (.iadd, 1) := by decide +kernel
theorem dX4_at_7 : decode cX4_at 7 = .ok (.imul, 1) := by decide +kernel
theorem dX4_at_8 : decode cX4_at 8 = .ok (.iload_n 2, 1) := by decide +kernel
theorem dX4_at_9 : decode cX4_at 9 = .ok (.iadd, 1) := by decide +kernel
theorem dX4_at_10 : decode cX4_at 10 = .ok (.ireturn, 1) := by decide +kernel
theorem dX4_is_0 : decode cX4_is 0 = .ok (.aload_n 0, 1) := by decide +kernel
theorem dX4_is_1 : decode cX4_is 1 = .ok (.getfield 29, 3) := by decide +kernel
theorem dX4_is_4 : decode cX4_is 4 = .ok (.iconst 4, 1) := by decide +kernel
theorem dX4_is_5 : decode cX4_is 5 = .ok (.iload_n 1, 1) := by decide +kernel
theorem dX4_is_6 : decode cX4_is 6 = .ok (.imul, 1) := by decide +kernel
theorem dX4_is_7 : decode cX4_is 7 = .ok (.iload_n 2, 1) := by decide +kernel
theorem dX4_is_8 : decode cX4_is 8 = .ok (.iadd, 1) := by decide +kernel
theorem dX4_is_9 : decode cX4_is 9 = .ok (.iaload, 1) := by decide +kernel
theorem dX4_is_10 : decode cX4_is 10 = .ok (.iconst 1, 1) := by decide +kernel
theorem dX4_is_11 : decode cX4_is 11 = .ok (.if_icmp .ne 7, 3) := by decide +kernel
theorem dX4_is_14 : decode cX4_is 14 = .ok (.iconst 1, 1) := by decide +kernel
theorem dX4_is_15 : decode cX4_is 15 = .ok (.goto 4, 3) := by decide +kernel
theorem dX4_is_18 : decode cX4_is 18 = .ok (.iconst 0, 1) := by decide +kernel
theorem dX4_is_19 : decode cX4_is 19 = .ok (.ireturn, 1) := by decide +kernel
theorem dX4_mode_0 : decode cX4_mode 0 = .ok (.iload_n 1, 1) := by decide +kernel
theorem dX4_mode_1 : decode cX4_mode 1 = .ok (.invokestatic 88, 3) := by decide +kernel
theorem dX4_mode_4 : decode cX4_mode 4 = .ok (.ifCond .ne 5, 3) := by decide +kernel
theorem dX4_mode_7 : decode cX4_mode 7 = .ok (.iconst (-1), 1) := by decide +kernel
theorem dX4_mode_8 : decode cX4_mode 8 = .ok (.ireturn, 1) := by decide +kernel
theorem dX4_mode_9 : decode cX4_mode 9 = .ok (.iload_n 2, 1) := by decide +kernel
theorem dX4_mode_10 : decode cX4_mode 10 = .ok (.iconst 0, 1) := by decide +kernel
theorem dX4_mode_11 : decode cX4_mode 11 = .ok (.iconst 3, 1) := by decide +kernel
theorem dX4_mode_12 : decode cX4_mode 12 = .ok (.invokestatic 80, 3) := by decide +kernel
theorem dX4_mode_15 : decode cX4_mode 15 = .ok (.ifCond .eq 12, 3) := by decide +kernel
theorem dX4_mode_18 : decode cX4_mode 18 = .ok (.iload_n 3, 1) := by decide +kernel
theorem dX4_mode_19 : decode cX4_mode 19 = .ok (.iconst 0, 1) := by decide +kernel
theorem dX4_mode_20 : decode cX4_mode 20 = .ok (.iconst 1, 1) := by decide +kernel
theorem dX4_mode_21 : decode cX4_mode 21 = .ok (.invokestatic 80, 3) := by decide +kernel
theorem dX4_mode_24 : decode cX4_mode 24 = .ok (.ifCond .ne 6, 3) := by decide +kernel
theorem dX4_mode_27 : decode cX4_mode 27 = .ok (.bipush (-2), 2) := by decide +kernel
theorem dX4_mode_29 : decode cX4_mode 29 = .ok (.ireturn, 1) := by decide +kernel
theorem dX4_mode_30 : decode cX4_mode 30 = .ok (.aload_n 0, 1) := by decide +kernel
theorem dX4_mode_31 : decode cX4_mode 31 = .ok (.getfield 29, 3) := by decide +kernel
theorem dX4_mode_34 : decode cX4_mode 34 = .ok (.iconst 4, 1) := by decide +kernel
theorem dX4_mode_35 : decode cX4_mode 35 = .ok (.iload_n 1, 1) := by decide +kernel
theorem dX4_mode_36 : decode cX4_mode 36 = .ok (.imul, 1) := by decide +kernel
theorem dX4_mode_37 : decode cX4_mode 37 = .ok (.iload_n 2, 1) := by decide +kernel
theorem dX4_mode_38 : decode cX4_mode 38 = .ok (.iadd, 1) := by decide +kernel
theorem dX4_mode_39 : decode cX4_mode 39 = .ok (.iaload, 1) := by decide +kernel
theorem dX4_mode_40 : decode cX4_mode 40 = .ok (.istore 4, 2) := by decide +kernel
theorem dX4_mode_42 : decode cX4_mode 42 = .ok (.aload_n 0, 1) := by decide +kernel
theorem dX4_mode_43 : decode cX4_mode 43 = .ok (.getfield 29, 3) := by decide +kernel
theorem dX4_mode_46 : decode cX4_mode 46 = .ok (.iconst 4, 1) := by decide +kernel
theorem dX4_mode_47 : decode cX4_mode 47 = .ok (.iload_n 1, 1) := by decide +kernel
theorem dX4_mode_48 : decode cX4_mode 48 = .ok (.imul, 1) := by decide +kernel
theorem dX4_mode_49 : decode cX4_mode 49 = .ok (.iload_n 2, 1) := by decide +kernel
theorem dX4_mode_50 : decode cX4_mode 50 = .ok (.iadd, 1) := by decide +kernel
theorem dX4_mode_51 : decode cX4_mode 51 = .ok (.iload_n 3, 1) := by decide +kernel
theorem dX4_mode_52 : decode cX4_mode 52 = .ok (.iastore, 1) := by decide +kernel
theorem dX4_mode_53 : decode cX4_mode 53 = .ok (.iload_n 1, 1) := by decide +kernel
theorem dX4_mode_54 : decode cX4_mode 54 = .ok (.iconst 0, 1) := by decide +kernel
theorem dX4_mode_55 : decode cX4_mode 55 = .ok (.iconst 0, 1) := by decide +kernel
theorem dX4_mode_56 : decode cX4_mode 56 = .ok (.invokestatic 109, 3) := by decide +kernel
theorem dX4_mode_59 : decode cX4_mode 59 = .ok (.istore 5, 2) := by decide +kernel
theorem dX4_mode_61 : decode cX4_mode 61 = .ok (.iload 5, 2) := by decide +kernel
theorem dX4_mode_63 : decode cX4_mode 63 = .ok (.iload_n 1, 1) := by decide +kernel
theorem dX4_mode_64 : decode cX4_mode 64 = .ok (.iconst 1, 1) := by decide +kernel
theorem dX4_mode_65 : decode cX4_mode 65 = .ok (.iadd, 1) := by decide +kernel
theorem dX4_mode_66 : decode cX4_mode 66 = .ok (.iconst 0, 1) := by decide +kernel
theorem dX4_mode_67 : decode cX4_mode 67 = .ok (.iconst 0, 1) := by decide +kernel
theorem dX4_mode_68 : decode cX4_mode 68 = .ok (.invokestatic 109, 3) := by decide +kernel
theorem dX4_mode_71 : decode cX4_mode 71 = .ok (.if_icmp .ge 28, 3) := by decide +kernel
theorem dX4_mode_74 : decode cX4_mode 74 = .ok (.iload_n 2, 1) := by decide +kernel
theorem dX4_mode_75 : decode cX4_mode 75 = .ok (.iconst 2, 1) := by decide +kernel
theorem dX4_mode_76 : decode cX4_mode 76 = .ok (.if_icmp .ne 23, 3) := by decide +kernel
theorem dX4_mode_79 : decode cX4_mode 79 = .ok (.iload 4, 2) := by decide +kernel
theorem dX4_mode_81 : decode cX4_mode 81 = .ok (.iload_n 3, 1) := by decide +kernel
theorem dX4_mode_82 : decode cX4_mode 82 = .ok (.if_icmp .eq 17, 3) := by decide +kernel
theorem dX4_mode_85 : decode cX4_mode 85 = .ok (.aload_n 0, 1) := by decide +kernel
theorem dX4_mode_86 : decode cX4_mode 86 = .ok (.getfield 35, 3) := by decide +kernel
theorem dX4_mode_89 : decode cX4_mode 89 = .ok (.iload 5, 2) := by decide +kernel
theorem dX4_mode_91 : decode cX4_mode 91 = .ok (.iconst 0, 1) := by decide +kernel
theorem dX4_mode_92 : decode cX4_mode 92 = .ok (.iastore, 1) := by decide +kernel
theorem dX4_mode_93 : decode cX4_mode 93 = .ok (.iinc 5 1, 3) := by decide +kernel
theorem dX4_mode_96 : decode cX4_mode 96 = .ok (.goto (-35), 3) := by decide +kernel
theorem dX4_mode_99 : decode cX4_mode 99 = .ok (.iload 4, 2) := by decide +kernel
theorem dX4_mode_101 : decode cX4_mode 101 = .ok (.ireturn, 1) := by decide +kernel
theorem dX4_setting_0 : decode cX4_setting 0 = .ok (.iload_n 1, 1) := by decide +kernel
theorem dX4_setting_1 : decode cX4_setting 1 = .ok (.ifCond .ne 12, 3) := by decide +kernel
theorem dX4_setting_4 : decode cX4_setting 4 = .ok (.iload_n 2, 1) := by decide +kernel
theorem dX4_setting_5 : decode cX4_setting 5 = .ok (.iconst 0, 1) := by decide +kernel
theorem dX4_setting_6 : decode cX4_setting 6 = .ok (.iconst 1, 1) := by decide +kernel
theorem dX4_setting_7 : decode cX4_setting 7 = .ok (.invokestatic 80, 3) := by decide +kernel
theorem dX4_setting_10 : decode cX4_setting 10 = .ok (.goto 23, 3) := by decide +kernel
theorem dX4_setting_13 : decode cX4_setting 13 = .ok (.iload_n 1, 1) := by decide +kernel
theorem dX4_setting_14 : decode cX4_setting 14 = .ok (.iconst 1, 1) := by decide +kernel
theorem dX4_setting_15 : decode cX4_setting 15 = .ok (.if_icmp .ne 17, 3) := by decide +kernel
theorem dX4_setting_18 : decode cX4_setting 18 = .ok (.iload_n 2, 1) := by decide +kernel
theorem dX4_setting_19 : decode cX4_setting 19 = .ok (.iconst 1, 1) := by decide +kernel
theorem dX4_setting_20 : decode cX4_setting 20 = .ok (.bipush 9, 2) := by decide +kernel
theorem dX4_setting_22 : decode cX4_setting 22 = .ok (.invokestatic 80, 3) := by decide +kernel
theorem dX4_setting_25 : decode cX4_setting 25 = .ok (.ifCond .eq 7, 3) := by decide +kernel
theorem dX4_setting_28 : decode cX4_setting 28 = .ok (.iconst 1, 1) := by decide +kernel
theorem dX4_setting_29 : decode cX4_setting 29 = .ok (.goto 4, 3) := by decide +kernel
theorem dX4_setting_32 : decode cX4_setting 32 = .ok (.iconst 0, 1) := by decide +kernel
theorem dX4_setting_33 : decode cX4_setting 33 = .ok (.istore_n 3, 1) := by decide +kernel
theorem dX4_setting_34 : decode cX4_setting 34 = .ok (.iload_n 3, 1) := by decide +kernel
theorem dX4_setting_35 : decode cX4_setting 35 = .ok (.ifCond .ne 6, 3) := by decide +kernel
theorem dX4_setting_38 : decode cX4_setting 38 = .ok (.bipush (-2), 2) := by decide +kernel
theorem dX4_setting_40 : decode cX4_setting 40 = .ok (.ireturn, 1) := by decide +kernel
theorem dX4_setting_41 : decode cX4_setting 41 = .ok (.aload_n 0, 1) := by decide +kernel
theorem dX4_setting_42 : decode cX4_setting 42 = .ok (.getfield 32, 3) := by decide +kernel
theorem dX4_setting_45 : decode cX4_setting 45 = .ok (.iload_n 1, 1) := by decide +kernel
theorem dX4_setting_46 : decode cX4_setting 46 = .ok (.iaload, 1) := by decide +kernel
theorem dX4_setting_47 : decode cX4_setting 47 = .ok (.istore 4, 2) := by decide +kernel
theorem dX4_setting_49 : decode cX4_setting 49 = .ok (.aload_n 0, 1) := by decide +kernel
theorem dX4_setting_50 : decode cX4_setting 50 = .ok (.getfield 32, 3) := by decide +kernel
theorem dX4_setting_53 : decode cX4_setting 53 = .ok (.iload_n 1, 1) := by decide +kernel
theorem dX4_setting_54 : decode cX4_setting 54 = .ok (.iload_n 2, 1) := by decide +kernel
theorem dX4_setting_55 : decode cX4_setting 55 = .ok (.iastore, 1) := by decide +kernel
theorem dX4_setting_56 : decode cX4_setting 56 = .ok (.iload 4, 2) := by decide +kernel
theorem dX4_setting_58 : decode cX4_setting 58 = .ok (.ireturn, 1) := by decide +kernel
theorem dX4_usedAt_0 : decode cX4_usedAt 0 = .ok (.aload_n 0, 1) := by decide +kernel
theorem dX4_usedAt_1 : decode cX4_usedAt 1 = .ok (.iload_n 1, 1) := by decide +kernel
theorem dX4_usedAt_2 : decode cX4_usedAt 2 = .ok (.iload_n 2, 1) := by decide +kernel
theorem dX4_usedAt_3 : decode cX4_usedAt 3 = .ok (.invokevirtual 106, 3) := by decide +kernel
theorem dX4_usedAt_6 : decode cX4_usedAt 6 = .ok (.istore_n 3, 1) := by decide +kernel
theorem dX4_usedAt_7 : decode cX4_usedAt 7 = .ok (.iload_n 3, 1) := by decide +kernel
theorem dX4_usedAt_8 : decode cX4_usedAt 8 = .ok (.bipush (-9), 2) := by decide +kernel
theorem dX4_usedAt_10 : decode cX4_usedAt 10 = .ok (.if_icmp .ne 8, 3) := by decide +kernel
theorem dX4_usedAt_13 : decode cX4_usedAt 13 = .ok (.bipush (-9), 2) := by decide +kernel
theorem dX4_usedAt_15 : decode cX4_usedAt 15 = .ok (.goto 14, 3) := by decide +kernel
theorem dX4_usedAt_18 : decode cX4_usedAt 18 = .ok (.iload_n 1, 1) := by decide +kernel
theorem dX4_usedAt_19 : decode cX4_usedAt 19 = .ok (.aload_n 0, 1) := by decide +kernel
theorem dX4_usedAt_20 : decode cX4_usedAt 20 = .ok (.iload_n 1, 1) := by decide +kernel
theorem dX4_usedAt_21 : decode cX4_usedAt 21 = .ok (.iload_n 3, 1) := by decide +kernel
theorem dX4_usedAt_22 : decode cX4_usedAt 22 = .ok (.invokevirtual 92, 3) := by decide +kernel
theorem dX4_usedAt_25 : decode cX4_usedAt 25 = .ok (.iload_n 2, 1) := by decide +kernel
theorem dX4_usedAt_26 : decode cX4_usedAt 26 = .ok (.invokestatic 109, 3) := by decide +kernel
theorem dX4_usedAt_29 : decode cX4_usedAt 29 = .ok (.ireturn, 1) := by decide +kernel
theorem dX4_countOf_0 : decode cX4_countOf 0 = .ok (.aload_n 0, 1) := by decide +kernel
theorem dX4_countOf_1 : decode cX4_countOf 1 = .ok (.getfield 23, 3) := by decide +kernel
theorem dX4_countOf_4 : decode cX4_countOf 4 = .ok (.iload_n 2, 1) := by decide +kernel
theorem dX4_countOf_5 : decode cX4_countOf 5 = .ok (.iaload, 1) := by decide +kernel
theorem dX4_countOf_6 : decode cX4_countOf 6 = .ok (.iload_n 1, 1) := by decide +kernel
theorem dX4_countOf_7 : decode cX4_countOf 7 = .ok (.if_icmp .ne 5, 3) := by decide +kernel
theorem dX4_countOf_10 : decode cX4_countOf 10 = .ok (.iconst 0, 1) := by decide +kernel
theorem dX4_countOf_11 : decode cX4_countOf 11 = .ok (.ireturn, 1) := by decide +kernel
theorem dX4_countOf_12 : decode cX4_countOf 12 = .ok (.aload_n 0, 1) := by decide +kernel
theorem dX4_countOf_13 : decode cX4_countOf 13 = .ok (.iload_n 1, 1) := by decide +kernel
theorem dX4_countOf_14 : decode cX4_countOf 14 = .ok (.iload_n 2, 1) := by decide +kernel
theorem dX4_countOf_15 : decode cX4_countOf 15 = .ok (.invokevirtual 113, 3) := by decide +kernel
theorem dX4_countOf_18 : decode cX4_countOf 18 = .ok (.istore_n 3, 1) := by decide +kernel
theorem dX4_countOf_19 : decode cX4_countOf 19 = .ok (.iload_n 3, 1) := by decide +kernel
theorem dX4_countOf_20 : decode cX4_countOf 20 = .ok (.bipush (-9), 2) := by decide +kernel
theorem dX4_countOf_22 : decode cX4_countOf 22 = .ok (.if_icmp .ne 6, 3) := by decide +kernel
theorem dX4_countOf_25 : decode cX4_countOf 25 = .ok (.bipush (-9), 2) := by decide +kernel
theorem dX4_countOf_27 : decode cX4_countOf 27 = .ok (.ireturn, 1) := by decide +kernel
theorem dX4_countOf_28 : decode cX4_countOf 28 = .ok (.aload_n 0, 1) := by decide +kernel
theorem dX4_countOf_29 : decode cX4_countOf 29 = .ok (.getfield 41, 3) := by decide +kernel
theorem dX4_countOf_32 : decode cX4_countOf 32 = .ok (.iload_n 3, 1) := by decide +kernel
theorem dX4_countOf_33 : decode cX4_countOf 33 = .ok (.iaload, 1) := by decide +kernel
theorem dX4_countOf_34 : decode cX4_countOf 34 = .ok (.ifCond .ne 20, 3) := by decide +kernel
theorem dX4_countOf_37 : decode cX4_countOf 37 = .ok (.aload_n 0, 1) := by decide +kernel
theorem dX4_countOf_38 : decode cX4_countOf 38 = .ok (.getfield 32, 3) := by decide +kernel
theorem dX4_countOf_41 : decode cX4_countOf 41 = .ok (.iconst 0, 1) := by decide +kernel
theorem dX4_countOf_42 : decode cX4_countOf 42 = .ok (.iaload, 1) := by decide +kernel
theorem dX4_countOf_43 : decode cX4_countOf 43 = .ok (.iconst 1, 1) := by decide +kernel
theorem dX4_countOf_44 : decode cX4_countOf 44 = .ok (.if_icmp .ne 8, 3) := by decide +kernel
theorem dX4_countOf_47 : decode cX4_countOf 47 = .ok (.bipush (-9), 2) := by decide +kernel
theorem dX4_countOf_49 : decode cX4_countOf 49 = .ok (.goto 4, 3) := by decide +kernel
theorem dX4_countOf_52 : decode cX4_countOf 52 = .ok (.iconst 1, 1) := by decide +kernel
theorem dX4_countOf_53 : decode cX4_countOf 53 = .ok (.ireturn, 1) := by decide +kernel
theorem dX4_countOf_54 : decode cX4_countOf 54 = .ok (.aload_n 0, 1) := by decide +kernel
theorem dX4_countOf_55 : decode cX4_countOf 55 = .ok (.getfield 44, 3) := by decide +kernel
theorem dX4_countOf_58 : decode cX4_countOf 58 = .ok (.iload_n 3, 1) := by decide +kernel
theorem dX4_countOf_59 : decode cX4_countOf 59 = .ok (.iaload, 1) := by decide +kernel
theorem dX4_countOf_60 : decode cX4_countOf 60 = .ok (.iconst 1, 1) := by decide +kernel
theorem dX4_countOf_61 : decode cX4_countOf 61 = .ok (.iadd, 1) := by decide +kernel
theorem dX4_countOf_62 : decode cX4_countOf 62 = .ok (.aload_n 0, 1) := by decide +kernel
theorem dX4_countOf_63 : decode cX4_countOf 63 = .ok (.getfield 32, 3) := by decide +kernel
theorem dX4_countOf_66 : decode cX4_countOf 66 = .ok (.iconst 1, 1) := by decide +kernel
theorem dX4_countOf_67 : decode cX4_countOf 67 = .ok (.iaload, 1) := by decide +kernel
theorem dX4_countOf_68 : decode cX4_countOf 68 = .ok (.if_icmp .le 8, 3) := by decide +kernel
theorem dX4_countOf_71 : decode cX4_countOf 71 = .ok (.bipush (-9), 2) := by decide +kernel
theorem dX4_countOf_73 : decode cX4_countOf 73 = .ok (.goto 11, 3) := by decide +kernel
theorem dX4_countOf_76 : decode cX4_countOf 76 = .ok (.aload_n 0, 1) := by decide +kernel
theorem dX4_countOf_77 : decode cX4_countOf 77 = .ok (.getfield 44, 3) := by decide +kernel
theorem dX4_countOf_80 : decode cX4_countOf 80 = .ok (.iload_n 3, 1) := by decide +kernel
theorem dX4_countOf_81 : decode cX4_countOf 81 = .ok (.iaload, 1) := by decide +kernel
theorem dX4_countOf_82 : decode cX4_countOf 82 = .ok (.iconst 1, 1) := by decide +kernel
theorem dX4_countOf_83 : decode cX4_countOf 83 = .ok (.iadd, 1) := by decide +kernel
theorem dX4_countOf_84 : decode cX4_countOf 84 = .ok (.ireturn, 1) := by decide +kernel
theorem dX4_hands_0 : decode cX4_hands 0 = .ok (.aload_n 0, 1) := by decide +kernel
theorem dX4_hands_1 : decode cX4_hands 1 = .ok (.iload_n 2, 1) := by decide +kernel
theorem dX4_hands_2 : decode cX4_hands 2 = .ok (.iload_n 1, 1) := by decide +kernel
theorem dX4_hands_3 : decode cX4_hands 3 = .ok (.invokevirtual 116, 3) := by decide +kernel
theorem dX4_hands_6 : decode cX4_hands 6 = .ok (.ifCond .eq 27, 3) := by decide +kernel
theorem dX4_hands_9 : decode cX4_hands 9 = .ok (.aload_n 0, 1) := by decide +kernel
theorem dX4_hands_10 : decode cX4_hands 10 = .ok (.getfield 19, 3) := by decide +kernel
theorem dX4_hands_13 : decode cX4_hands 13 = .ok (.iload_n 2, 1) := by decide +kernel
theorem dX4_hands_14 : decode cX4_hands 14 = .ok (.baload, 1) := by decide +kernel
theorem dX4_hands_15 : decode cX4_hands 15 = .ok (.ifCond .eq 18, 3) := by decide +kernel
theorem dX4_hands_18 : decode cX4_hands 18 = .ok (.aload_n 0, 1) := by decide +kernel
theorem dX4_hands_19 : decode cX4_hands 19 = .ok (.getfield 62, 3) := by decide +kernel
theorem dX4_hands_22 : decode cX4_hands 22 = .ok (.iconst 4, 1) := by decide +kernel
theorem dX4_hands_23 : decode cX4_hands 23 = .ok (.iload_n 1, 1) := by decide +kernel
theorem dX4_hands_24 : decode cX4_hands 24 = .ok (.imul, 1) := by decide +kernel
theorem dX4_hands_25 : decode cX4_hands 25 = .ok (.iload_n 3, 1) := by decide +kernel
theorem dX4_hands_26 : decode cX4_hands 26 = .ok (.iadd, 1) := by decide +kernel
theorem dX4_hands_27 : decode cX4_hands 27 = .ok (.iaload, 1) := by decide +kernel
theorem dX4_hands_28 : decode cX4_hands 28 = .ok (.bipush (-9), 2) := by decide +kernel
theorem dX4_hands_30 : decode cX4_hands 30 = .ok (.if_icmp .ne 5, 3) := by decide +kernel
theorem dX4_hands_33 : decode cX4_hands 33 = .ok (.iconst 0, 1) := by decide +kernel
theorem dX4_hands_34 : decode cX4_hands 34 = .ok (.ireturn, 1) := by decide +kernel
theorem dX4_hands_35 : decode cX4_hands 35 = .ok (.aload_n 0, 1) := by decide +kernel
theorem dX4_hands_36 : decode cX4_hands 36 = .ok (.iload_n 1, 1) := by decide +kernel
theorem dX4_hands_37 : decode cX4_hands 37 = .ok (.iconst 0, 1) := by decide +kernel
theorem dX4_hands_38 : decode cX4_hands 38 = .ok (.invokevirtual 120, 3) := by decide +kernel
theorem dX4_hands_41 : decode cX4_hands 41 = .ok (.ifCond .eq 22, 3) := by decide +kernel
theorem dX4_hands_44 : decode cX4_hands 44 = .ok (.aload_n 0, 1) := by decide +kernel
theorem dX4_hands_45 : decode cX4_hands 45 = .ok (.getfield 59, 3) := by decide +kernel
theorem dX4_hands_48 : decode cX4_hands 48 = .ok (.iconst 4, 1) := by decide +kernel
theorem dX4_hands_49 : decode cX4_hands 49 = .ok (.aload_n 0, 1) := by decide +kernel
theorem dX4_hands_50 : decode cX4_hands 50 = .ok (.iload_n 2, 1) := by decide +kernel
theorem dX4_hands_51 : decode cX4_hands 51 = .ok (.iload_n 1, 1) := by decide +kernel
theorem dX4_hands_52 : decode cX4_hands 52 = .ok (.invokevirtual 123, 3) := by decide +kernel
theorem dX4_hands_55 : decode cX4_hands 55 = .ok (.imul, 1) := by decide +kernel
theorem dX4_hands_56 : decode cX4_hands 56 = .ok (.iload_n 3, 1) := by decide +kernel
theorem dX4_hands_57 : decode cX4_hands 57 = .ok (.iadd, 1) := by decide +kernel
theorem dX4_hands_58 : decode cX4_hands 58 = .ok (.iaload, 1) := by decide +kernel
theorem dX4_hands_59 : decode cX4_hands 59 = .ok (.iload_n 1, 1) := by decide +kernel
theorem dX4_hands_60 : decode cX4_hands 60 = .ok (.if_icmp .ne 7, 3) := by decide +kernel
theorem dX4_hands_63 : decode cX4_hands 63 = .ok (.iconst 1, 1) := by decide +kernel
theorem dX4_hands_64 : decode cX4_hands 64 = .ok (.goto 4, 3) := by decide +kernel
theorem dX4_hands_67 : decode cX4_hands 67 = .ok (.iconst 0, 1) := by decide +kernel
theorem dX4_hands_68 : decode cX4_hands 68 = .ok (.ireturn, 1) := by decide +kernel
theorem dX4_labelWas_0 : decode cX4_labelWas 0 = .ok (.iconst 0, 1) := by decide +kernel
theorem dX4_labelWas_1 : decode cX4_labelWas 1 = .ok (.istore 4, 2) := by decide +kernel
theorem dX4_labelWas_3 : decode cX4_labelWas 3 = .ok (.iload 4, 2) := by decide +kernel
theorem dX4_labelWas_5 : decode cX4_labelWas 5 = .ok (.aload_n 0, 1) := by decide +kernel
theorem dX4_labelWas_6 : decode cX4_labelWas 6 = .ok (.getfield 84, 3) := by decide +kernel
theorem dX4_labelWas_9 : decode cX4_labelWas 9 = .ok (.if_icmp .ge 45, 3) := by decide +kernel
theorem dX4_labelWas_12 : decode cX4_labelWas 12 = .ok (.aload_n 0, 1) := by decide +kernel
theorem dX4_labelWas_13 : decode cX4_labelWas 13 = .ok (.getfield 47, 3) := by decide +kernel
theorem dX4_labelWas_16 : decode cX4_labelWas 16 = .ok (.iload_n 1, 1) := by decide +kernel
theorem dX4_labelWas_17 : decode cX4_labelWas 17 = .ok (.iload 4, 2) := by decide +kernel
theorem dX4_labelWas_19 : decode cX4_labelWas 19 = .ok (.iload_n 3, 1) := by decide +kernel
theorem dX4_labelWas_20 : decode cX4_labelWas 20 = .ok (.invokestatic 109, 3) := by decide +kernel
theorem dX4_labelWas_23 : decode cX4_labelWas 23 = .ok (.iaload, 1) := by decide +kernel
theorem dX4_labelWas_24 : decode cX4_labelWas 24 = .ok (.istore 5, 2) := by decide +kernel
theorem dX4_labelWas_26 : decode cX4_labelWas 26 = .ok (.iload_n 2, 1) := by decide +kernel
theorem dX4_labelWas_27 : decode cX4_labelWas 27 = .ok (.bipush (-9), 2) := by decide +kernel
theorem dX4_labelWas_29 : decode cX4_labelWas 29 = .ok (.if_icmp .eq 9, 3) := by decide +kernel
theorem dX4_labelWas_32 : decode cX4_labelWas 32 = .ok (.iload_n 2, 1) := by decide +kernel
theorem dX4_labelWas_33 : decode cX4_labelWas 33 = .ok (.iload 4, 2) := by decide +kernel
theorem dX4_labelWas_35 : decode cX4_labelWas 35 = .ok (.if_icmp .ne 13, 3) := by decide +kernel
theorem dX4_labelWas_38 : decode cX4_labelWas 38 = .ok (.iload 5, 2) := by decide +kernel
theorem dX4_labelWas_40 : decode cX4_labelWas 40 = .ok (.bipush 16, 2) := by decide +kernel
theorem dX4_labelWas_42 : decode cX4_labelWas 42 = .ok (.if_icmp .lt 6, 3) := by decide +kernel
theorem dX4_labelWas_45 : decode cX4_labelWas 45 = .ok (.iload 5, 2) := by decide +kernel
theorem dX4_labelWas_47 : decode cX4_labelWas 47 = .ok (.ireturn, 1) := by decide +kernel
theorem dX4_labelWas_48 : decode cX4_labelWas 48 = .ok (.iinc 4 1, 3) := by decide +kernel
theorem dX4_labelWas_51 : decode cX4_labelWas 51 = .ok (.goto (-48), 3) := by decide +kernel
theorem dX4_labelWas_54 : decode cX4_labelWas 54 = .ok (.iconst 0, 1) := by decide +kernel
theorem dX4_labelWas_55 : decode cX4_labelWas 55 = .ok (.ireturn, 1) := by decide +kernel
theorem dX4_isInRow_0 : decode cX4_isInRow 0 = .ok (.iconst 0, 1) := by decide +kernel
theorem dX4_isInRow_1 : decode cX4_isInRow 1 = .ok (.istore 4, 2) := by decide +kernel
theorem dX4_isInRow_3 : decode cX4_isInRow 3 = .ok (.iload 4, 2) := by decide +kernel
theorem dX4_isInRow_5 : decode cX4_isInRow 5 = .ok (.aload_n 0, 1) := by decide +kernel
theorem dX4_isInRow_6 : decode cX4_isInRow 6 = .ok (.getfield 84, 3) := by decide +kernel
theorem dX4_isInRow_9 : decode cX4_isInRow 9 = .ok (.if_icmp .ge 55, 3) := by decide +kernel
theorem dX4_isInRow_12 : decode cX4_isInRow 12 = .ok (.iconst 0, 1) := by decide +kernel
theorem dX4_isInRow_13 : decode cX4_isInRow 13 = .ok (.istore 5, 2) := by decide +kernel
theorem dX4_isInRow_15 : decode cX4_isInRow 15 = .ok (.iload 5, 2) := by decide +kernel
theorem dX4_isInRow_17 : decode cX4_isInRow 17 = .ok (.iconst 4, 1) := by decide +kernel
theorem dX4_isInRow_18 : decode cX4_isInRow 18 = .ok (.if_icmp .ge 40, 3) := by decide +kernel
theorem dX4_isInRow_21 : decode cX4_isInRow 21 = .ok (.iload_n 2, 1) := by decide +kernel
theorem dX4_isInRow_22 : decode cX4_isInRow 22 = .ok (.bipush (-9), 2) := by decide +kernel
theorem dX4_isInRow_24 : decode cX4_isInRow 24 = .ok (.if_icmp .eq 9, 3) := by decide +kernel
theorem dX4_isInRow_27 : decode cX4_isInRow 27 = .ok (.iload_n 2, 1) := by decide +kernel
theorem dX4_isInRow_28 : decode cX4_isInRow 28 = .ok (.iload 4, 2) := by decide +kernel
theorem dX4_isInRow_30 : decode cX4_isInRow 30 = .ok (.if_icmp .ne 22, 3) := by decide +kernel
theorem dX4_isInRow_33 : decode cX4_isInRow 33 = .ok (.aload_n 0, 1) := by decide +kernel
theorem dX4_isInRow_34 : decode cX4_isInRow 34 = .ok (.getfield 35, 3) := by decide +kernel
theorem dX4_isInRow_37 : decode cX4_isInRow 37 = .ok (.iload_n 1, 1) := by decide +kernel
theorem dX4_isInRow_38 : decode cX4_isInRow 38 = .ok (.iload 4, 2) := by decide +kernel
theorem dX4_isInRow_40 : decode cX4_isInRow 40 = .ok (.iload 5, 2) := by decide +kernel
theorem dX4_isInRow_42 : decode cX4_isInRow 42 = .ok (.invokestatic 109, 3) := by decide +kernel
theorem dX4_isInRow_45 : decode cX4_isInRow 45 = .ok (.iaload, 1) := by decide +kernel
theorem dX4_isInRow_46 : decode cX4_isInRow 46 = .ok (.iload_n 3, 1) := by decide +kernel
theorem dX4_isInRow_47 : decode cX4_isInRow 47 = .ok (.if_icmp .ne 5, 3) := by decide +kernel
theorem dX4_isInRow_50 : decode cX4_isInRow 50 = .ok (.iconst 1, 1) := by decide +kernel
theorem dX4_isInRow_51 : decode cX4_isInRow 51 = .ok (.ireturn, 1) := by decide +kernel
theorem dX4_isInRow_52 : decode cX4_isInRow 52 = .ok (.iinc 5 1, 3) := by decide +kernel
theorem dX4_isInRow_55 : decode cX4_isInRow 55 = .ok (.goto (-40), 3) := by decide +kernel
theorem dX4_isInRow_58 : decode cX4_isInRow 58 = .ok (.iinc 4 1, 3) := by decide +kernel
theorem dX4_isInRow_61 : decode cX4_isInRow 61 = .ok (.goto (-58), 3) := by decide +kernel
theorem dX4_isInRow_64 : decode cX4_isInRow 64 = .ok (.iconst 0, 1) := by decide +kernel
theorem dX4_isInRow_65 : decode cX4_isInRow 65 = .ok (.ireturn, 1) := by decide +kernel
theorem dX4_isNew_0 : decode cX4_isNew 0 = .ok (.aload_n 0, 1) := by decide +kernel
theorem dX4_isNew_1 : decode cX4_isNew 1 = .ok (.getfield 23, 3) := by decide +kernel
theorem dX4_isNew_4 : decode cX4_isNew 4 = .ok (.iload_n 3, 1) := by decide +kernel
theorem dX4_isNew_5 : decode cX4_isNew 5 = .ok (.iaload, 1) := by decide +kernel
theorem dX4_isNew_6 : decode cX4_isNew 6 = .ok (.iload_n 1, 1) := by decide +kernel
theorem dX4_isNew_7 : decode cX4_isNew 7 = .ok (.if_icmp .ne 12, 3) := by decide +kernel
theorem dX4_isNew_10 : decode cX4_isNew 10 = .ok (.aload_n 0, 1) := by decide +kernel
theorem dX4_isNew_11 : decode cX4_isNew 11 = .ok (.iload_n 1, 1) := by decide +kernel
theorem dX4_isNew_12 : decode cX4_isNew 12 = .ok (.iconst 3, 1) := by decide +kernel
theorem dX4_isNew_13 : decode cX4_isNew 13 = .ok (.invokevirtual 120, 3) := by decide +kernel
theorem dX4_isNew_16 : decode cX4_isNew 16 = .ok (.ifCond .ne 17, 3) := by decide +kernel
theorem dX4_isNew_19 : decode cX4_isNew 19 = .ok (.aload_n 0, 1) := by decide +kernel
theorem dX4_isNew_20 : decode cX4_isNew 20 = .ok (.iload_n 1, 1) := by decide +kernel
theorem dX4_isNew_21 : decode cX4_isNew 21 = .ok (.iload_n 2, 1) := by decide +kernel
theorem dX4_isNew_22 : decode cX4_isNew 22 = .ok (.iload_n 3, 1) := by decide +kernel
theorem dX4_isNew_23 : decode cX4_isNew 23 = .ok (.invokevirtual 126, 3) := by decide +kernel
theorem dX4_isNew_26 : decode cX4_isNew 26 = .ok (.ifCond .ne 7, 3) := by decide +kernel
theorem dX4_isNew_29 : decode cX4_isNew 29 = .ok (.iconst 1, 1) := by decide +kernel
theorem dX4_isNew_30 : decode cX4_isNew 30 = .ok (.goto 4, 3) := by decide +kernel
theorem dX4_isNew_33 : decode cX4_isNew 33 = .ok (.iconst 0, 1) := by decide +kernel
theorem dX4_isNew_34 : decode cX4_isNew 34 = .ok (.ireturn, 1) := by decide +kernel
theorem dX4_labels_0 : decode cX4_labels 0 = .ok (.iconst 0, 1) := by decide +kernel
theorem dX4_labels_1 : decode cX4_labels 1 = .ok (.istore 5, 2) := by decide +kernel
theorem dX4_labels_3 : decode cX4_labels 3 = .ok (.iload 5, 2) := by decide +kernel
theorem dX4_labels_5 : decode cX4_labels 5 = .ok (.aload_n 0, 1) := by decide +kernel
theorem dX4_labels_6 : decode cX4_labels 6 = .ok (.getfield 84, 3) := by decide +kernel
theorem dX4_labels_9 : decode cX4_labels 9 = .ok (.if_icmp .ge 68, 3) := by decide +kernel
theorem dX4_labels_12 : decode cX4_labels 12 = .ok (.iload_n 2, 1) := by decide +kernel
theorem dX4_labels_13 : decode cX4_labels 13 = .ok (.bipush (-9), 2) := by decide +kernel
theorem dX4_labels_15 : decode cX4_labels 15 = .ok (.if_icmp .eq 9, 3) := by decide +kernel
theorem dX4_labels_18 : decode cX4_labels 18 = .ok (.iload_n 2, 1) := by decide +kernel
theorem dX4_labels_19 : decode cX4_labels 19 = .ok (.iload 5, 2) := by decide +kernel
theorem dX4_labels_21 : decode cX4_labels 21 = .ok (.if_icmp .ne 50, 3) := by decide +kernel
theorem dX4_labels_24 : decode cX4_labels 24 = .ok (.aload_n 0, 1) := by decide +kernel
theorem dX4_labels_25 : decode cX4_labels 25 = .ok (.iload_n 1, 1) := by decide +kernel
theorem dX4_labels_26 : decode cX4_labels 26 = .ok (.iload 5, 2) := by decide +kernel
theorem dX4_labels_28 : decode cX4_labels 28 = .ok (.iload_n 3, 1) := by decide +kernel
theorem dX4_labels_29 : decode cX4_labels 29 = .ok (.invokevirtual 129, 3) := by decide +kernel
theorem dX4_labels_32 : decode cX4_labels 32 = .ok (.ifCond .eq 39, 3) := by decide +kernel
theorem dX4_labels_35 : decode cX4_labels 35 = .ok (.aload_n 0, 1) := by decide +kernel
theorem dX4_labels_36 : decode cX4_labels 36 = .ok (.getfield 35, 3) := by decide +kernel
theorem dX4_labels_39 : decode cX4_labels 39 = .ok (.iload_n 1, 1) := by decide +kernel
theorem dX4_labels_40 : decode cX4_labels 40 = .ok (.iload 5, 2) := by decide +kernel
theorem dX4_labels_42 : decode cX4_labels 42 = .ok (.iload_n 3, 1) := by decide +kernel
theorem dX4_labels_43 : decode cX4_labels 43 = .ok (.invokestatic 109, 3) := by decide +kernel
theorem dX4_labels_46 : decode cX4_labels 46 = .ok (.iload 4, 2) := by decide +kernel
theorem dX4_labels_48 : decode cX4_labels 48 = .ok (.iastore, 1) := by decide +kernel
theorem dX4_labels_49 : decode cX4_labels 49 = .ok (.aload_n 0, 1) := by decide +kernel
theorem dX4_labels_50 : decode cX4_labels 50 = .ok (.getfield 38, 3) := by decide +kernel
theorem dX4_labels_53 : decode cX4_labels 53 = .ok (.iload_n 1, 1) := by decide +kernel
theorem dX4_labels_54 : decode cX4_labels 54 = .ok (.iload 5, 2) := by decide +kernel
theorem dX4_labels_56 : decode cX4_labels 56 = .ok (.iload_n 3, 1) := by decide +kernel
theorem dX4_labels_57 : decode cX4_labels 57 = .ok (.invokestatic 109, 3) := by decide +kernel
theorem dX4_labels_60 : decode cX4_labels 60 = .ok (.aload_n 0, 1) := by decide +kernel
theorem dX4_labels_61 : decode cX4_labels 61 = .ok (.getfield 62, 3) := by decide +kernel
theorem dX4_labels_64 : decode cX4_labels 64 = .ok (.iconst 4, 1) := by decide +kernel
theorem dX4_labels_65 : decode cX4_labels 65 = .ok (.iload_n 1, 1) := by decide +kernel
theorem dX4_labels_66 : decode cX4_labels 66 = .ok (.imul, 1) := by decide +kernel
theorem dX4_labels_67 : decode cX4_labels 67 = .ok (.iload_n 3, 1) := by decide +kernel
theorem dX4_labels_68 : decode cX4_labels 68 = .ok (.iadd, 1) := by decide +kernel
theorem dX4_labels_69 : decode cX4_labels 69 = .ok (.iaload, 1) := by decide +kernel
theorem dX4_labels_70 : decode cX4_labels 70 = .ok (.iastore, 1) := by decide +kernel
theorem dX4_labels_71 : decode cX4_labels 71 = .ok (.iinc 5 1, 3) := by decide +kernel
theorem dX4_labels_74 : decode cX4_labels 74 = .ok (.goto (-71), 3) := by decide +kernel
theorem dX4_labels_77 : decode cX4_labels 77 = .ok (.return_, 1) := by decide +kernel
theorem dX4_handsInRow_0 : decode cX4_handsInRow 0 = .ok (.iconst 0, 1) := by decide +kernel
theorem dX4_handsInRow_1 : decode cX4_handsInRow 1 = .ok (.istore 4, 2) := by decide +kernel
theorem dX4_handsInRow_3 : decode cX4_handsInRow 3 = .ok (.iload 4, 2) := by decide +kernel
theorem dX4_handsInRow_5 : decode cX4_handsInRow 5 = .ok (.aload_n 0, 1) := by decide +kernel
theorem dX4_handsInRow_6 : decode cX4_handsInRow 6 = .ok (.getfield 84, 3) := by decide +kernel
theorem dX4_handsInRow_9 : decode cX4_handsInRow 9 = .ok (.if_icmp .ge 34, 3) := by decide +kernel
theorem dX4_handsInRow_12 : decode cX4_handsInRow 12 = .ok (.iload_n 2, 1) := by decide +kernel
theorem dX4_handsInRow_13 : decode cX4_handsInRow 13 = .ok (.bipush (-9), 2) := by decide +kernel
theorem dX4_handsInRow_15 : decode cX4_handsInRow 15 = .ok (.if_icmp .eq 9, 3) := by decide +kernel
theorem dX4_handsInRow_18 : decode cX4_handsInRow 18 = .ok (.iload_n 2, 1) := by decide +kernel
theorem dX4_handsInRow_19 : decode cX4_handsInRow 19 = .ok (.iload 4, 2) := by decide +kernel
theorem dX4_handsInRow_21 : decode cX4_handsInRow 21 = .ok (.if_icmp .ne 16, 3) := by decide +kernel
theorem dX4_handsInRow_24 : decode cX4_handsInRow 24 = .ok (.aload_n 0, 1) := by decide +kernel
theorem dX4_handsInRow_25 : decode cX4_handsInRow 25 = .ok (.iload_n 1, 1) := by decide +kernel
theorem dX4_handsInRow_26 : decode cX4_handsInRow 26 = .ok (.iload 4, 2) := by decide +kernel
theorem dX4_handsInRow_28 : decode cX4_handsInRow 28 = .ok (.iload_n 3, 1) := by decide +kernel
theorem dX4_handsInRow_29 : decode cX4_handsInRow 29 = .ok (.invokevirtual 129, 3) := by decide +kernel
theorem dX4_handsInRow_32 : decode cX4_handsInRow 32 = .ok (.ifCond .eq 5, 3) := by decide +kernel
theorem dX4_handsInRow_35 : decode cX4_handsInRow 35 = .ok (.iconst 1, 1) := by decide +kernel
theorem dX4_handsInRow_36 : decode cX4_handsInRow 36 = .ok (.ireturn, 1) := by decide +kernel
theorem dX4_handsInRow_37 : decode cX4_handsInRow 37 = .ok (.iinc 4 1, 3) := by decide +kernel
theorem dX4_handsInRow_40 : decode cX4_handsInRow 40 = .ok (.goto (-37), 3) := by decide +kernel
theorem dX4_handsInRow_43 : decode cX4_handsInRow 43 = .ok (.iconst 0, 1) := by decide +kernel
theorem dX4_handsInRow_44 : decode cX4_handsInRow 44 = .ok (.ireturn, 1) := by decide +kernel
theorem dX4_handsRow_0 : decode cX4_handsRow 0 = .ok (.iconst 0, 1) := by decide +kernel
theorem dX4_handsRow_1 : decode cX4_handsRow 1 = .ok (.istore_n 3, 1) := by decide +kernel
theorem dX4_handsRow_2 : decode cX4_handsRow 2 = .ok (.iload_n 3, 1) := by decide +kernel
theorem dX4_handsRow_3 : decode cX4_handsRow 3 = .ok (.iconst 4, 1) := by decide +kernel
theorem dX4_handsRow_4 : decode cX4_handsRow 4 = .ok (.if_icmp .ge 56, 3) := by decide +kernel
theorem dX4_handsRow_7 : decode cX4_handsRow 7 = .ok (.aload_n 0, 1) := by decide +kernel
theorem dX4_handsRow_8 : decode cX4_handsRow 8 = .ok (.iload_n 1, 1) := by decide +kernel
theorem dX4_handsRow_9 : decode cX4_handsRow 9 = .ok (.iload_n 2, 1) := by decide +kernel
theorem dX4_handsRow_10 : decode cX4_handsRow 10 = .ok (.iload_n 3, 1) := by decide +kernel
theorem dX4_handsRow_11 : decode cX4_handsRow 11 = .ok (.invokevirtual 132, 3) := by decide +kernel
theorem dX4_handsRow_14 : decode cX4_handsRow 14 = .ok (.ifCond .ne 40, 3) := by decide +kernel
theorem dX4_handsRow_17 : decode cX4_handsRow 17 = .ok (.aload_n 0, 1) := by decide +kernel
theorem dX4_handsRow_18 : decode cX4_handsRow 18 = .ok (.iload_n 1, 1) := by decide +kernel
theorem dX4_handsRow_19 : decode cX4_handsRow 19 = .ok (.iload_n 2, 1) := by decide +kernel
theorem dX4_handsRow_20 : decode cX4_handsRow 20 = .ok (.iload_n 3, 1) := by decide +kernel
theorem dX4_handsRow_21 : decode cX4_handsRow 21 = .ok (.aload_n 0, 1) := by decide +kernel
theorem dX4_handsRow_22 : decode cX4_handsRow 22 = .ok (.getfield 23, 3) := by decide +kernel
theorem dX4_handsRow_25 : decode cX4_handsRow 25 = .ok (.iload_n 3, 1) := by decide +kernel
theorem dX4_handsRow_26 : decode cX4_handsRow 26 = .ok (.iaload, 1) := by decide +kernel
theorem dX4_handsRow_27 : decode cX4_handsRow 27 = .ok (.iload_n 1, 1) := by decide +kernel
theorem dX4_handsRow_28 : decode cX4_handsRow 28 = .ok (.if_icmp .ne 16, 3) := by decide +kernel
theorem dX4_handsRow_31 : decode cX4_handsRow 31 = .ok (.aload_n 0, 1) := by decide +kernel
theorem dX4_handsRow_32 : decode cX4_handsRow 32 = .ok (.iload_n 1, 1) := by decide +kernel
theorem dX4_handsRow_33 : decode cX4_handsRow 33 = .ok (.iconst 3, 1) := by decide +kernel
theorem dX4_handsRow_34 : decode cX4_handsRow 34 = .ok (.invokevirtual 120, 3) := by decide +kernel
theorem dX4_handsRow_37 : decode cX4_handsRow 37 = .ok (.ifCond .eq 7, 3) := by decide +kernel
theorem dX4_handsRow_40 : decode cX4_handsRow 40 = .ok (.iconst 3, 1) := by decide +kernel
theorem dX4_handsRow_41 : decode cX4_handsRow 41 = .ok (.goto 10, 3) := by decide +kernel
theorem dX4_handsRow_44 : decode cX4_handsRow 44 = .ok (.aload_n 0, 1) := by decide +kernel
theorem dX4_handsRow_45 : decode cX4_handsRow 45 = .ok (.iload_n 1, 1) := by decide +kernel
theorem dX4_handsRow_46 : decode cX4_handsRow 46 = .ok (.iload_n 2, 1) := by decide +kernel
theorem dX4_handsRow_47 : decode cX4_handsRow 47 = .ok (.iload_n 3, 1) := by decide +kernel
theorem dX4_handsRow_48 : decode cX4_handsRow 48 = .ok (.invokevirtual 126, 3) := by decide +kernel
theorem dX4_handsRow_51 : decode cX4_handsRow 51 = .ok (.invokevirtual 135, 3) := by decide +kernel
theorem dX4_handsRow_54 : decode cX4_handsRow 54 = .ok (.iinc 3 1, 3) := by decide +kernel
theorem dX4_handsRow_57 : decode cX4_handsRow 57 = .ok (.goto (-55), 3) := by decide +kernel
theorem dX4_handsRow_60 : decode cX4_handsRow 60 = .ok (.iconst 0, 1) := by decide +kernel
theorem dX4_handsRow_61 : decode cX4_handsRow 61 = .ok (.istore_n 3, 1) := by decide +kernel
theorem dX4_handsRow_62 : decode cX4_handsRow 62 = .ok (.iload_n 3, 1) := by decide +kernel
theorem dX4_handsRow_63 : decode cX4_handsRow 63 = .ok (.iconst 4, 1) := by decide +kernel
theorem dX4_handsRow_64 : decode cX4_handsRow 64 = .ok (.if_icmp .ge 59, 3) := by decide +kernel
theorem dX4_handsRow_67 : decode cX4_handsRow 67 = .ok (.aload_n 0, 1) := by decide +kernel
theorem dX4_handsRow_68 : decode cX4_handsRow 68 = .ok (.iload_n 1, 1) := by decide +kernel
theorem dX4_handsRow_69 : decode cX4_handsRow 69 = .ok (.iload_n 2, 1) := by decide +kernel
theorem dX4_handsRow_70 : decode cX4_handsRow 70 = .ok (.iload_n 3, 1) := by decide +kernel
theorem dX4_handsRow_71 : decode cX4_handsRow 71 = .ok (.invokevirtual 132, 3) := by decide +kernel
theorem dX4_handsRow_74 : decode cX4_handsRow 74 = .ok (.ifCond .eq 43, 3) := by decide +kernel
theorem dX4_handsRow_77 : decode cX4_handsRow 77 = .ok (.aload_n 0, 1) := by decide +kernel
theorem dX4_handsRow_78 : decode cX4_handsRow 78 = .ok (.iload_n 1, 1) := by decide +kernel
theorem dX4_handsRow_79 : decode cX4_handsRow 79 = .ok (.iload_n 2, 1) := by decide +kernel
theorem dX4_handsRow_80 : decode cX4_handsRow 80 = .ok (.iload_n 3, 1) := by decide +kernel
theorem dX4_handsRow_81 : decode cX4_handsRow 81 = .ok (.invokevirtual 139, 3) := by decide +kernel
theorem dX4_handsRow_84 : decode cX4_handsRow 84 = .ok (.ifCond .eq 33, 3) := by decide +kernel
theorem dX4_handsRow_87 : decode cX4_handsRow 87 = .ok (.bipush 16, 2) := by decide +kernel
theorem dX4_handsRow_89 : decode cX4_handsRow 89 = .ok (.istore 4, 2) := by decide +kernel
theorem dX4_handsRow_91 : decode cX4_handsRow 91 = .ok (.aload_n 0, 1) := by decide +kernel
theorem dX4_handsRow_92 : decode cX4_handsRow 92 = .ok (.iload_n 1, 1) := by decide +kernel
theorem dX4_handsRow_93 : decode cX4_handsRow 93 = .ok (.iload_n 2, 1) := by decide +kernel
theorem dX4_handsRow_94 : decode cX4_handsRow 94 = .ok (.iload 4, 2) := by decide +kernel
theorem dX4_handsRow_96 : decode cX4_handsRow 96 = .ok (.invokevirtual 142, 3) := by decide +kernel
theorem dX4_handsRow_99 : decode cX4_handsRow 99 = .ok (.ifCond .eq 9, 3) := by decide +kernel
theorem dX4_handsRow_102 : decode cX4_handsRow 102 = .ok (.iinc 4 1, 3) := by decide +kernel
theorem dX4_handsRow_105 : decode cX4_handsRow 105 = .ok (.goto (-14), 3) := by decide +kernel
theorem dX4_handsRow_108 : decode cX4_handsRow 108 = .ok (.aload_n 0, 1) := by decide +kernel
theorem dX4_handsRow_109 : decode cX4_handsRow 109 = .ok (.iload_n 1, 1) := by decide +kernel
theorem dX4_handsRow_110 : decode cX4_handsRow 110 = .ok (.iload_n 2, 1) := by decide +kernel
theorem dX4_handsRow_111 : decode cX4_handsRow 111 = .ok (.iload_n 3, 1) := by decide +kernel
theorem dX4_handsRow_112 : decode cX4_handsRow 112 = .ok (.iload 4, 2) := by decide +kernel
theorem dX4_handsRow_114 : decode cX4_handsRow 114 = .ok (.invokevirtual 135, 3) := by decide +kernel
theorem dX4_handsRow_117 : decode cX4_handsRow 117 = .ok (.iinc 3 1, 3) := by decide +kernel
theorem dX4_handsRow_120 : decode cX4_handsRow 120 = .ok (.goto (-58), 3) := by decide +kernel
theorem dX4_handsRow_123 : decode cX4_handsRow 123 = .ok (.return_, 1) := by decide +kernel
theorem dX4_handsAll_0 : decode cX4_handsAll 0 = .ok (.aload_n 0, 1) := by decide +kernel
theorem dX4_handsAll_1 : decode cX4_handsAll 1 = .ok (.iload_n 1, 1) := by decide +kernel
theorem dX4_handsAll_2 : decode cX4_handsAll 2 = .ok (.iconst 2, 1) := by decide +kernel
theorem dX4_handsAll_3 : decode cX4_handsAll 3 = .ok (.invokevirtual 120, 3) := by decide +kernel
theorem dX4_handsAll_6 : decode cX4_handsAll 6 = .ok (.ifCond .ne 11, 3) := by decide +kernel
theorem dX4_handsAll_9 : decode cX4_handsAll 9 = .ok (.aload_n 0, 1) := by decide +kernel
theorem dX4_handsAll_10 : decode cX4_handsAll 10 = .ok (.iload_n 1, 1) := by decide +kernel
theorem dX4_handsAll_11 : decode cX4_handsAll 11 = .ok (.bipush (-9), 2) := by decide +kernel
theorem dX4_handsAll_13 : decode cX4_handsAll 13 = .ok (.invokevirtual 145, 3) := by decide +kernel
theorem dX4_handsAll_16 : decode cX4_handsAll 16 = .ok (.return_, 1) := by decide +kernel
theorem dX4_handsAll_17 : decode cX4_handsAll 17 = .ok (.iconst 0, 1) := by decide +kernel
theorem dX4_handsAll_18 : decode cX4_handsAll 18 = .ok (.istore_n 2, 1) := by decide +kernel
theorem dX4_handsAll_19 : decode cX4_handsAll 19 = .ok (.iload_n 2, 1) := by decide +kernel
theorem dX4_handsAll_20 : decode cX4_handsAll 20 = .ok (.aload_n 0, 1) := by decide +kernel
theorem dX4_handsAll_21 : decode cX4_handsAll 21 = .ok (.getfield 84, 3) := by decide +kernel
theorem dX4_handsAll_24 : decode cX4_handsAll 24 = .ok (.if_icmp .ge 15, 3) := by decide +kernel
theorem dX4_handsAll_27 : decode cX4_handsAll 27 = .ok (.aload_n 0, 1) := by decide +kernel
theorem dX4_handsAll_28 : decode cX4_handsAll 28 = .ok (.iload_n 1, 1) := by decide +kernel
theorem dX4_handsAll_29 : decode cX4_handsAll 29 = .ok (.iload_n 2, 1) := by decide +kernel
theorem dX4_handsAll_30 : decode cX4_handsAll 30 = .ok (.invokevirtual 145, 3) := by decide +kernel
theorem dX4_handsAll_33 : decode cX4_handsAll 33 = .ok (.iinc 2 1, 3) := by decide +kernel
theorem dX4_handsAll_36 : decode cX4_handsAll 36 = .ok (.goto (-17), 3) := by decide +kernel
theorem dX4_handsAll_39 : decode cX4_handsAll 39 = .ok (.return_, 1) := by decide +kernel
theorem dX4_keeps_0 : decode cX4_keeps 0 = .ok (.iconst 0, 1) := by decide +kernel
theorem dX4_keeps_1 : decode cX4_keeps 1 = .ok (.istore_n 1, 1) := by decide +kernel
theorem dX4_keeps_2 : decode cX4_keeps 2 = .ok (.iload_n 1, 1) := by decide +kernel
theorem dX4_keeps_3 : decode cX4_keeps 3 = .ok (.sipush 336, 3) := by decide +kernel
theorem dX4_keeps_6 : decode cX4_keeps 6 = .ok (.if_icmp .ge 146, 3) := by decide +kernel
theorem dX4_keeps_9 : decode cX4_keeps 9 = .ok (.iload_n 1, 1) := by decide +kernel
theorem dX4_keeps_10 : decode cX4_keeps 10 = .ok (.bipush 48, 2) := by decide +kernel
theorem dX4_keeps_12 : decode cX4_keeps 12 = .ok (.idiv, 1) := by decide +kernel
theorem dX4_keeps_13 : decode cX4_keeps 13 = .ok (.istore_n 2, 1) := by decide +kernel
theorem dX4_keeps_14 : decode cX4_keeps 14 = .ok (.iload_n 1, 1) := by decide +kernel
theorem dX4_keeps_15 : decode cX4_keeps 15 = .ok (.iconst 4, 1) := by decide +kernel
theorem dX4_keeps_16 : decode cX4_keeps 16 = .ok (.idiv, 1) := by decide +kernel
theorem dX4_keeps_17 : decode cX4_keeps 17 = .ok (.bipush 12, 2) := by decide +kernel
theorem dX4_keeps_19 : decode cX4_keeps 19 = .ok (.irem, 1) := by decide +kernel
theorem dX4_keeps_20 : decode cX4_keeps 20 = .ok (.istore_n 3, 1) := by decide +kernel
theorem dX4_keeps_21 : decode cX4_keeps 21 = .ok (.iload_n 1, 1) := by decide +kernel
theorem dX4_keeps_22 : decode cX4_keeps 22 = .ok (.iconst 4, 1) := by decide +kernel
theorem dX4_keeps_23 : decode cX4_keeps 23 = .ok (.irem, 1) := by decide +kernel
theorem dX4_keeps_24 : decode cX4_keeps 24 = .ok (.istore 4, 2) := by decide +kernel
theorem dX4_keeps_26 : decode cX4_keeps 26 = .ok (.aload_n 0, 1) := by decide +kernel
theorem dX4_keeps_27 : decode cX4_keeps 27 = .ok (.getfield 41, 3) := by decide +kernel
theorem dX4_keeps_30 : decode cX4_keeps 30 = .ok (.iload_n 1, 1) := by decide +kernel
theorem dX4_keeps_31 : decode cX4_keeps 31 = .ok (.iconst 0, 1) := by decide +kernel
theorem dX4_keeps_32 : decode cX4_keeps 32 = .ok (.iastore, 1) := by decide +kernel
theorem dX4_keeps_33 : decode cX4_keeps 33 = .ok (.aload_n 0, 1) := by decide +kernel
theorem dX4_keeps_34 : decode cX4_keeps 34 = .ok (.iload_n 3, 1) := by decide +kernel
theorem dX4_keeps_35 : decode cX4_keeps 35 = .ok (.invokevirtual 96, 3) := by decide +kernel
theorem dX4_keeps_38 : decode cX4_keeps 38 = .ok (.ifCond .eq 108, 3) := by decide +kernel
theorem dX4_keeps_41 : decode cX4_keeps 41 = .ok (.aload_n 0, 1) := by decide +kernel
theorem dX4_keeps_42 : decode cX4_keeps 42 = .ok (.iload_n 3, 1) := by decide +kernel
theorem dX4_keeps_43 : decode cX4_keeps 43 = .ok (.iload_n 2, 1) := by decide +kernel
theorem dX4_keeps_44 : decode cX4_keeps 44 = .ok (.invokevirtual 116, 3) := by decide +kernel
theorem dX4_keeps_47 : decode cX4_keeps 47 = .ok (.ifCond .eq 99, 3) := by decide +kernel
theorem dX4_keeps_50 : decode cX4_keeps 50 = .ok (.aload_n 0, 1) := by decide +kernel
theorem dX4_keeps_51 : decode cX4_keeps 51 = .ok (.getfield 19, 3) := by decide +kernel
theorem dX4_keeps_54 : decode cX4_keeps 54 = .ok (.iload_n 3, 1) := by decide +kernel
theorem dX4_keeps_55 : decode cX4_keeps 55 = .ok (.baload, 1) := by decide +kernel
theorem dX4_keeps_56 : decode cX4_keeps 56 = .ok (.ifCond .eq 90, 3) := by decide +kernel
theorem dX4_keeps_59 : decode cX4_keeps 59 = .ok (.aload_n 0, 1) := by decide +kernel
theorem dX4_keeps_60 : decode cX4_keeps 60 = .ok (.iload_n 3, 1) := by decide +kernel
theorem dX4_keeps_61 : decode cX4_keeps 61 = .ok (.iload_n 2, 1) := by decide +kernel
theorem dX4_keeps_62 : decode cX4_keeps 62 = .ok (.invokevirtual 123, 3) := by decide +kernel
theorem dX4_keeps_65 : decode cX4_keeps 65 = .ok (.istore 5, 2) := by decide +kernel
theorem dX4_keeps_67 : decode cX4_keeps 67 = .ok (.aload_n 0, 1) := by decide +kernel
theorem dX4_keeps_68 : decode cX4_keeps 68 = .ok (.iload_n 2, 1) := by decide +kernel
theorem dX4_keeps_69 : decode cX4_keeps 69 = .ok (.iconst 1, 1) := by decide +kernel
theorem dX4_keeps_70 : decode cX4_keeps 70 = .ok (.invokevirtual 120, 3) := by decide +kernel
theorem dX4_keeps_73 : decode cX4_keeps 73 = .ok (.ifCond .eq 19, 3) := by decide +kernel
theorem dX4_keeps_76 : decode cX4_keeps 76 = .ok (.aload_n 0, 1) := by decide +kernel
theorem dX4_keeps_77 : decode cX4_keeps 77 = .ok (.getfield 59, 3) := by decide +kernel
theorem dX4_keeps_80 : decode cX4_keeps 80 = .ok (.iconst 4, 1) := by decide +kernel
theorem dX4_keeps_81 : decode cX4_keeps 81 = .ok (.iload_n 2, 1) := by decide +kernel
theorem dX4_keeps_82 : decode cX4_keeps 82 = .ok (.imul, 1) := by decide +kernel
theorem dX4_keeps_83 : decode cX4_keeps 83 = .ok (.iload 4, 2) := by decide +kernel
theorem dX4_keeps_85 : decode cX4_keeps 85 = .ok (.iadd, 1) := by decide +kernel
theorem dX4_keeps_86 : decode cX4_keeps 86 = .ok (.iaload, 1) := by decide +kernel
theorem dX4_keeps_87 : decode cX4_keeps 87 = .ok (.iload 5, 2) := by decide +kernel
theorem dX4_keeps_89 : decode cX4_keeps 89 = .ok (.if_icmp .ne 7, 3) := by decide +kernel
theorem dX4_keeps_92 : decode cX4_keeps 92 = .ok (.iconst 1, 1) := by decide +kernel
theorem dX4_keeps_93 : decode cX4_keeps 93 = .ok (.goto 4, 3) := by decide +kernel
theorem dX4_keeps_96 : decode cX4_keeps 96 = .ok (.iconst 0, 1) := by decide +kernel
theorem dX4_keeps_97 : decode cX4_keeps 97 = .ok (.istore 6, 2) := by decide +kernel
theorem dX4_keeps_99 : decode cX4_keeps 99 = .ok (.aload_n 0, 1) := by decide +kernel
theorem dX4_keeps_100 : decode cX4_keeps 100 = .ok (.getfield 41, 3) := by decide +kernel
theorem dX4_keeps_103 : decode cX4_keeps 103 = .ok (.iload_n 1, 1) := by decide +kernel
theorem dX4_keeps_104 : decode cX4_keeps 104 = .ok (.iload 6, 2) := by decide +kernel
theorem dX4_keeps_106 : decode cX4_keeps 106 = .ok (.ifCond .eq 19, 3) := by decide +kernel
theorem dX4_keeps_109 : decode cX4_keeps 109 = .ok (.aload_n 0, 1) := by decide +kernel
theorem dX4_keeps_110 : decode cX4_keeps 110 = .ok (.getfield 35, 3) := by decide +kernel
theorem dX4_keeps_113 : decode cX4_keeps 113 = .ok (.iload 5, 2) := by decide +kernel
theorem dX4_keeps_115 : decode cX4_keeps 115 = .ok (.iload_n 3, 1) := by decide +kernel
theorem dX4_keeps_116 : decode cX4_keeps 116 = .ok (.iload 4, 2) := by decide +kernel
theorem dX4_keeps_118 : decode cX4_keeps 118 = .ok (.invokestatic 109, 3) := by decide +kernel
theorem dX4_keeps_121 : decode cX4_keeps 121 = .ok (.iaload, 1) := by decide +kernel
theorem dX4_keeps_122 : decode cX4_keeps 122 = .ok (.goto 4, 3) := by decide +kernel
theorem dX4_keeps_125 : decode cX4_keeps 125 = .ok (.iconst 0, 1) := by decide +kernel
theorem dX4_keeps_126 : decode cX4_keeps 126 = .ok (.iastore, 1) := by decide +kernel
theorem dX4_keeps_127 : decode cX4_keeps 127 = .ok (.aload_n 0, 1) := by decide +kernel
theorem dX4_keeps_128 : decode cX4_keeps 128 = .ok (.getfield 44, 3) := by decide +kernel
theorem dX4_keeps_131 : decode cX4_keeps 131 = .ok (.iload_n 1, 1) := by decide +kernel
theorem dX4_keeps_132 : decode cX4_keeps 132 = .ok (.aload_n 0, 1) := by decide +kernel
theorem dX4_keeps_133 : decode cX4_keeps 133 = .ok (.getfield 38, 3) := by decide +kernel
theorem dX4_keeps_136 : decode cX4_keeps 136 = .ok (.iload 5, 2) := by decide +kernel
theorem dX4_keeps_138 : decode cX4_keeps 138 = .ok (.iload_n 3, 1) := by decide +kernel
theorem dX4_keeps_139 : decode cX4_keeps 139 = .ok (.iload 4, 2) := by decide +kernel
theorem dX4_keeps_141 : decode cX4_keeps 141 = .ok (.invokestatic 109, 3) := by decide +kernel
theorem dX4_keeps_144 : decode cX4_keeps 144 = .ok (.iaload, 1) := by decide +kernel
theorem dX4_keeps_145 : decode cX4_keeps 145 = .ok (.iastore, 1) := by decide +kernel
theorem dX4_keeps_146 : decode cX4_keeps 146 = .ok (.iinc 1 1, 3) := by decide +kernel
theorem dX4_keeps_149 : decode cX4_keeps 149 = .ok (.goto (-147), 3) := by decide +kernel
theorem dX4_keeps_152 : decode cX4_keeps 152 = .ok (.return_, 1) := by decide +kernel
theorem dX4_goesOn_0 : decode cX4_goesOn 0 = .ok (.iconst 0, 1) := by decide +kernel
theorem dX4_goesOn_1 : decode cX4_goesOn 1 = .ok (.istore_n 1, 1) := by decide +kernel
theorem dX4_goesOn_2 : decode cX4_goesOn 2 = .ok (.iload_n 1, 1) := by decide +kernel
theorem dX4_goesOn_3 : decode cX4_goesOn 3 = .ok (.bipush 28, 2) := by decide +kernel
theorem dX4_goesOn_5 : decode cX4_goesOn 5 = .ok (.if_icmp .ge 41, 3) := by decide +kernel
theorem dX4_goesOn_8 : decode cX4_goesOn 8 = .ok (.aload_n 0, 1) := by decide +kernel
theorem dX4_goesOn_9 : decode cX4_goesOn 9 = .ok (.getfield 59, 3) := by decide +kernel
theorem dX4_goesOn_12 : decode cX4_goesOn 12 = .ok (.iload_n 1, 1) := by decide +kernel
theorem dX4_goesOn_13 : decode cX4_goesOn 13 = .ok (.aload_n 0, 1) := by decide +kernel
theorem dX4_goesOn_14 : decode cX4_goesOn 14 = .ok (.iload_n 1, 1) := by decide +kernel
theorem dX4_goesOn_15 : decode cX4_goesOn 15 = .ok (.iconst 4, 1) := by decide +kernel
theorem dX4_goesOn_16 : decode cX4_goesOn 16 = .ok (.idiv, 1) := by decide +kernel
theorem dX4_goesOn_17 : decode cX4_goesOn 17 = .ok (.iload_n 1, 1) := by decide +kernel
theorem dX4_goesOn_18 : decode cX4_goesOn 18 = .ok (.iconst 4, 1) := by decide +kernel
theorem dX4_goesOn_19 : decode cX4_goesOn 19 = .ok (.irem, 1) := by decide +kernel
theorem dX4_goesOn_20 : decode cX4_goesOn 20 = .ok (.invokevirtual 106, 3) := by decide +kernel
theorem dX4_goesOn_23 : decode cX4_goesOn 23 = .ok (.iastore, 1) := by decide +kernel
theorem dX4_goesOn_24 : decode cX4_goesOn 24 = .ok (.aload_n 0, 1) := by decide +kernel
theorem dX4_goesOn_25 : decode cX4_goesOn 25 = .ok (.getfield 62, 3) := by decide +kernel
theorem dX4_goesOn_28 : decode cX4_goesOn 28 = .ok (.iload_n 1, 1) := by decide +kernel
theorem dX4_goesOn_29 : decode cX4_goesOn 29 = .ok (.aload_n 0, 1) := by decide +kernel
theorem dX4_goesOn_30 : decode cX4_goesOn 30 = .ok (.iload_n 1, 1) := by decide +kernel
theorem dX4_goesOn_31 : decode cX4_goesOn 31 = .ok (.iconst 4, 1) := by decide +kernel
theorem dX4_goesOn_32 : decode cX4_goesOn 32 = .ok (.idiv, 1) := by decide +kernel
theorem dX4_goesOn_33 : decode cX4_goesOn 33 = .ok (.iload_n 1, 1) := by decide +kernel
theorem dX4_goesOn_34 : decode cX4_goesOn 34 = .ok (.iconst 4, 1) := by decide +kernel
theorem dX4_goesOn_35 : decode cX4_goesOn 35 = .ok (.irem, 1) := by decide +kernel
theorem dX4_goesOn_36 : decode cX4_goesOn 36 = .ok (.invokevirtual 149, 3) := by decide +kernel
theorem dX4_goesOn_39 : decode cX4_goesOn 39 = .ok (.iastore, 1) := by decide +kernel
theorem dX4_goesOn_40 : decode cX4_goesOn 40 = .ok (.iinc 1 1, 3) := by decide +kernel
theorem dX4_goesOn_43 : decode cX4_goesOn 43 = .ok (.goto (-41), 3) := by decide +kernel
theorem dX4_goesOn_46 : decode cX4_goesOn 46 = .ok (.iconst 0, 1) := by decide +kernel
theorem dX4_goesOn_47 : decode cX4_goesOn 47 = .ok (.istore_n 1, 1) := by decide +kernel
theorem dX4_goesOn_48 : decode cX4_goesOn 48 = .ok (.iload_n 1, 1) := by decide +kernel
theorem dX4_goesOn_49 : decode cX4_goesOn 49 = .ok (.sipush 336, 3) := by decide +kernel
theorem dX4_goesOn_52 : decode cX4_goesOn 52 = .ok (.if_icmp .ge 64, 3) := by decide +kernel
theorem dX4_goesOn_55 : decode cX4_goesOn 55 = .ok (.aload_n 0, 1) := by decide +kernel
theorem dX4_goesOn_56 : decode cX4_goesOn 56 = .ok (.getfield 47, 3) := by decide +kernel
theorem dX4_goesOn_59 : decode cX4_goesOn 59 = .ok (.iload_n 1, 1) := by decide +kernel
theorem dX4_goesOn_60 : decode cX4_goesOn 60 = .ok (.aload_n 0, 1) := by decide +kernel
theorem dX4_goesOn_61 : decode cX4_goesOn 61 = .ok (.getfield 35, 3) := by decide +kernel
theorem dX4_goesOn_64 : decode cX4_goesOn 64 = .ok (.iload_n 1, 1) := by decide +kernel
theorem dX4_goesOn_65 : decode cX4_goesOn 65 = .ok (.iaload, 1) := by decide +kernel
theorem dX4_goesOn_66 : decode cX4_goesOn 66 = .ok (.iastore, 1) := by decide +kernel
theorem dX4_goesOn_67 : decode cX4_goesOn 67 = .ok (.aload_n 0, 1) := by decide +kernel
theorem dX4_goesOn_68 : decode cX4_goesOn 68 = .ok (.getfield 50, 3) := by decide +kernel
theorem dX4_goesOn_71 : decode cX4_goesOn 71 = .ok (.iload_n 1, 1) := by decide +kernel
theorem dX4_goesOn_72 : decode cX4_goesOn 72 = .ok (.aload_n 0, 1) := by decide +kernel
theorem dX4_goesOn_73 : decode cX4_goesOn 73 = .ok (.getfield 38, 3) := by decide +kernel
theorem dX4_goesOn_76 : decode cX4_goesOn 76 = .ok (.iload_n 1, 1) := by decide +kernel
theorem dX4_goesOn_77 : decode cX4_goesOn 77 = .ok (.iaload, 1) := by decide +kernel
theorem dX4_goesOn_78 : decode cX4_goesOn 78 = .ok (.iastore, 1) := by decide +kernel
theorem dX4_goesOn_79 : decode cX4_goesOn 79 = .ok (.aload_n 0, 1) := by decide +kernel
theorem dX4_goesOn_80 : decode cX4_goesOn 80 = .ok (.getfield 53, 3) := by decide +kernel
theorem dX4_goesOn_83 : decode cX4_goesOn 83 = .ok (.iload_n 1, 1) := by decide +kernel
theorem dX4_goesOn_84 : decode cX4_goesOn 84 = .ok (.aload_n 0, 1) := by decide +kernel
theorem dX4_goesOn_85 : decode cX4_goesOn 85 = .ok (.getfield 41, 3) := by decide +kernel
theorem dX4_goesOn_88 : decode cX4_goesOn 88 = .ok (.iload_n 1, 1) := by decide +kernel
theorem dX4_goesOn_89 : decode cX4_goesOn 89 = .ok (.iaload, 1) := by decide +kernel
theorem dX4_goesOn_90 : decode cX4_goesOn 90 = .ok (.iastore, 1) := by decide +kernel
theorem dX4_goesOn_91 : decode cX4_goesOn 91 = .ok (.aload_n 0, 1) := by decide +kernel
theorem dX4_goesOn_92 : decode cX4_goesOn 92 = .ok (.getfield 56, 3) := by decide +kernel
theorem dX4_goesOn_95 : decode cX4_goesOn 95 = .ok (.iload_n 1, 1) := by decide +kernel
theorem dX4_goesOn_96 : decode cX4_goesOn 96 = .ok (.aload_n 0, 1) := by decide +kernel
theorem dX4_goesOn_97 : decode cX4_goesOn 97 = .ok (.getfield 44, 3) := by decide +kernel
theorem dX4_goesOn_100 : decode cX4_goesOn 100 = .ok (.iload_n 1, 1) := by decide +kernel
theorem dX4_goesOn_101 : decode cX4_goesOn 101 = .ok (.iaload, 1) := by decide +kernel
theorem dX4_goesOn_102 : decode cX4_goesOn 102 = .ok (.iastore, 1) := by decide +kernel
theorem dX4_goesOn_103 : decode cX4_goesOn 103 = .ok (.aload_n 0, 1) := by decide +kernel
theorem dX4_goesOn_104 : decode cX4_goesOn 104 = .ok (.getfield 35, 3) := by decide +kernel
theorem dX4_goesOn_107 : decode cX4_goesOn 107 = .ok (.iload_n 1, 1) := by decide +kernel
theorem dX4_goesOn_108 : decode cX4_goesOn 108 = .ok (.iconst 0, 1) := by decide +kernel
theorem dX4_goesOn_109 : decode cX4_goesOn 109 = .ok (.iastore, 1) := by decide +kernel
theorem dX4_goesOn_110 : decode cX4_goesOn 110 = .ok (.iinc 1 1, 3) := by decide +kernel
theorem dX4_goesOn_113 : decode cX4_goesOn 113 = .ok (.goto (-65), 3) := by decide +kernel
theorem dX4_goesOn_116 : decode cX4_goesOn 116 = .ok (.iconst 0, 1) := by decide +kernel
theorem dX4_goesOn_117 : decode cX4_goesOn 117 = .ok (.istore_n 1, 1) := by decide +kernel
theorem dX4_goesOn_118 : decode cX4_goesOn 118 = .ok (.iload_n 1, 1) := by decide +kernel
theorem dX4_goesOn_119 : decode cX4_goesOn 119 = .ok (.bipush 7, 2) := by decide +kernel
theorem dX4_goesOn_121 : decode cX4_goesOn 121 = .ok (.if_icmp .ge 14, 3) := by decide +kernel
theorem dX4_goesOn_124 : decode cX4_goesOn 124 = .ok (.aload_n 0, 1) := by decide +kernel
theorem dX4_goesOn_125 : decode cX4_goesOn 125 = .ok (.iload_n 1, 1) := by decide +kernel
theorem dX4_goesOn_126 : decode cX4_goesOn 126 = .ok (.invokevirtual 152, 3) := by decide +kernel
theorem dX4_goesOn_129 : decode cX4_goesOn 129 = .ok (.iinc 1 1, 3) := by decide +kernel
theorem dX4_goesOn_132 : decode cX4_goesOn 132 = .ok (.goto (-14), 3) := by decide +kernel
theorem dX4_goesOn_135 : decode cX4_goesOn 135 = .ok (.aload_n 0, 1) := by decide +kernel
theorem dX4_goesOn_136 : decode cX4_goesOn 136 = .ok (.invokevirtual 155, 3) := by decide +kernel
theorem dX4_goesOn_139 : decode cX4_goesOn 139 = .ok (.return_, 1) := by decide +kernel
theorem dX4_isChanged_0 : decode cX4_isChanged 0 = .ok (.iconst 0, 1) := by decide +kernel
theorem dX4_isChanged_1 : decode cX4_isChanged 1 = .ok (.istore_n 2, 1) := by decide +kernel
theorem dX4_isChanged_2 : decode cX4_isChanged 2 = .ok (.iload_n 2, 1) := by decide +kernel
theorem dX4_isChanged_3 : decode cX4_isChanged 3 = .ok (.sipush 336, 3) := by decide +kernel
theorem dX4_isChanged_6 : decode cX4_isChanged 6 = .ok (.if_icmp .ge 115, 3) := by decide +kernel
theorem dX4_isChanged_9 : decode cX4_isChanged 9 = .ok (.aload_n 0, 1) := by decide +kernel
theorem dX4_isChanged_10 : decode cX4_isChanged 10 = .ok (.getfield 35, 3) := by decide +kernel
theorem dX4_isChanged_13 : decode cX4_isChanged 13 = .ok (.iload_n 2, 1) := by decide +kernel
theorem dX4_isChanged_14 : decode cX4_isChanged 14 = .ok (.iaload, 1) := by decide +kernel
theorem dX4_isChanged_15 : decode cX4_isChanged 15 = .ok (.aload_n 0, 1) := by decide +kernel
theorem dX4_isChanged_16 : decode cX4_isChanged 16 = .ok (.getfield 47, 3) := by decide +kernel
theorem dX4_isChanged_19 : decode cX4_isChanged 19 = .ok (.iload_n 2, 1) := by decide +kernel
theorem dX4_isChanged_20 : decode cX4_isChanged 20 = .ok (.iaload, 1) := by decide +kernel
theorem dX4_isChanged_21 : decode cX4_isChanged 21 = .ok (.if_icmp .ne 27, 3) := by decide +kernel
theorem dX4_isChanged_24 : decode cX4_isChanged 24 = .ok (.aload_n 0, 1) := by decide +kernel
theorem dX4_isChanged_25 : decode cX4_isChanged 25 = .ok (.getfield 35, 3) := by decide +kernel
theorem dX4_isChanged_28 : decode cX4_isChanged 28 = .ok (.iload_n 2, 1) := by decide +kernel
theorem dX4_isChanged_29 : decode cX4_isChanged 29 = .ok (.iaload, 1) := by decide +kernel
theorem dX4_isChanged_30 : decode cX4_isChanged 30 = .ok (.ifCond .le 22, 3) := by decide +kernel
theorem dX4_isChanged_33 : decode cX4_isChanged 33 = .ok (.aload_n 0, 1) := by decide +kernel
theorem dX4_isChanged_34 : decode cX4_isChanged 34 = .ok (.getfield 38, 3) := by decide +kernel
theorem dX4_isChanged_37 : decode cX4_isChanged 37 = .ok (.iload_n 2, 1) := by decide +kernel
theorem dX4_isChanged_38 : decode cX4_isChanged 38 = .ok (.iaload, 1) := by decide +kernel
theorem dX4_isChanged_39 : decode cX4_isChanged 39 = .ok (.aload_n 0, 1) := by decide +kernel
theorem dX4_isChanged_40 : decode cX4_isChanged 40 = .ok (.getfield 50, 3) := by decide +kernel
theorem dX4_isChanged_43 : decode cX4_isChanged 43 = .ok (.iload_n 2, 1) := by decide +kernel
theorem dX4_isChanged_44 : decode cX4_isChanged 44 = .ok (.iaload, 1) := by decide +kernel
theorem dX4_isChanged_45 : decode cX4_isChanged 45 = .ok (.if_icmp .eq 7, 3) := by decide +kernel
theorem dX4_isChanged_48 : decode cX4_isChanged 48 = .ok (.iconst 1, 1) := by decide +kernel
theorem dX4_isChanged_49 : decode cX4_isChanged 49 = .ok (.goto 4, 3) := by decide +kernel
theorem dX4_isChanged_52 : decode cX4_isChanged 52 = .ok (.iconst 0, 1) := by decide +kernel
theorem dX4_isChanged_53 : decode cX4_isChanged 53 = .ok (.istore_n 3, 1) := by decide +kernel
theorem dX4_isChanged_54 : decode cX4_isChanged 54 = .ok (.aload_n 0, 1) := by decide +kernel
theorem dX4_isChanged_55 : decode cX4_isChanged 55 = .ok (.getfield 41, 3) := by decide +kernel
theorem dX4_isChanged_58 : decode cX4_isChanged 58 = .ok (.iload_n 2, 1) := by decide +kernel
theorem dX4_isChanged_59 : decode cX4_isChanged 59 = .ok (.iaload, 1) := by decide +kernel
theorem dX4_isChanged_60 : decode cX4_isChanged 60 = .ok (.aload_n 0, 1) := by decide +kernel
theorem dX4_isChanged_61 : decode cX4_isChanged 61 = .ok (.getfield 53, 3) := by decide +kernel
theorem dX4_isChanged_64 : decode cX4_isChanged 64 = .ok (.iload_n 2, 1) := by decide +kernel
theorem dX4_isChanged_65 : decode cX4_isChanged 65 = .ok (.iaload, 1) := by decide +kernel
theorem dX4_isChanged_66 : decode cX4_isChanged 66 = .ok (.if_icmp .ne 27, 3) := by decide +kernel
theorem dX4_isChanged_69 : decode cX4_isChanged 69 = .ok (.aload_n 0, 1) := by decide +kernel
theorem dX4_isChanged_70 : decode cX4_isChanged 70 = .ok (.getfield 41, 3) := by decide +kernel
theorem dX4_isChanged_73 : decode cX4_isChanged 73 = .ok (.iload_n 2, 1) := by decide +kernel
theorem dX4_isChanged_74 : decode cX4_isChanged 74 = .ok (.iaload, 1) := by decide +kernel
theorem dX4_isChanged_75 : decode cX4_isChanged 75 = .ok (.ifCond .le 22, 3) := by decide +kernel
theorem dX4_isChanged_78 : decode cX4_isChanged 78 = .ok (.aload_n 0, 1) := by decide +kernel
theorem dX4_isChanged_79 : decode cX4_isChanged 79 = .ok (.getfield 44, 3) := by decide +kernel
theorem dX4_isChanged_82 : decode cX4_isChanged 82 = .ok (.iload_n 2, 1) := by decide +kernel
theorem dX4_isChanged_83 : decode cX4_isChanged 83 = .ok (.iaload, 1) := by decide +kernel
theorem dX4_isChanged_84 : decode cX4_isChanged 84 = .ok (.aload_n 0, 1) := by decide +kernel
theorem dX4_isChanged_85 : decode cX4_isChanged 85 = .ok (.getfield 56, 3) := by decide +kernel
theorem dX4_isChanged_88 : decode cX4_isChanged 88 = .ok (.iload_n 2, 1) := by decide +kernel
theorem dX4_isChanged_89 : decode cX4_isChanged 89 = .ok (.iaload, 1) := by decide +kernel
theorem dX4_isChanged_90 : decode cX4_isChanged 90 = .ok (.if_icmp .eq 7, 3) := by decide +kernel
theorem dX4_isChanged_93 : decode cX4_isChanged 93 = .ok (.iconst 1, 1) := by decide +kernel
theorem dX4_isChanged_94 : decode cX4_isChanged 94 = .ok (.goto 4, 3) := by decide +kernel
theorem dX4_isChanged_97 : decode cX4_isChanged 97 = .ok (.iconst 0, 1) := by decide +kernel
theorem dX4_isChanged_98 : decode cX4_isChanged 98 = .ok (.istore 4, 2) := by decide +kernel
theorem dX4_isChanged_100 : decode cX4_isChanged 100 = .ok (.iload_n 3, 1) := by decide +kernel
theorem dX4_isChanged_101 : decode cX4_isChanged 101 = .ok (.ifCond .ne 12, 3) := by decide +kernel
theorem dX4_isChanged_104 : decode cX4_isChanged 104 = .ok (.iload_n 1, 1) := by decide +kernel
theorem dX4_isChanged_105 : decode cX4_isChanged 105 = .ok (.ifCond .eq 10, 3) := by decide +kernel
theorem dX4_isChanged_108 : decode cX4_isChanged 108 = .ok (.iload 4, 2) := by decide +kernel
theorem dX4_isChanged_110 : decode cX4_isChanged 110 = .ok (.ifCond .eq 5, 3) := by decide +kernel
theorem dX4_isChanged_113 : decode cX4_isChanged 113 = .ok (.iconst 1, 1) := by decide +kernel
theorem dX4_isChanged_114 : decode cX4_isChanged 114 = .ok (.ireturn, 1) := by decide +kernel
theorem dX4_isChanged_115 : decode cX4_isChanged 115 = .ok (.iinc 2 1, 3) := by decide +kernel
theorem dX4_isChanged_118 : decode cX4_isChanged 118 = .ok (.goto (-116), 3) := by decide +kernel
theorem dX4_isChanged_121 : decode cX4_isChanged 121 = .ok (.iconst 0, 1) := by decide +kernel
theorem dX4_isChanged_122 : decode cX4_isChanged 122 = .ok (.ireturn, 1) := by decide +kernel
theorem dX4_ticks_0 : decode cX4_ticks 0 = .ok (.iload_n 1, 1) := by decide +kernel
theorem dX4_ticks_1 : decode cX4_ticks 1 = .ok (.iconst 0, 1) := by decide +kernel
theorem dX4_ticks_2 : decode cX4_ticks 2 = .ok (.bipush 20, 2) := by decide +kernel
theorem dX4_ticks_4 : decode cX4_ticks 4 = .ok (.invokestatic 80, 3) := by decide +kernel
theorem dX4_ticks_7 : decode cX4_ticks 7 = .ok (.ifCond .ne 6, 3) := by decide +kernel
theorem dX4_ticks_10 : decode cX4_ticks 10 = .ok (.bipush (-2), 2) := by decide +kernel
theorem dX4_ticks_12 : decode cX4_ticks 12 = .ok (.ireturn, 1) := by decide +kernel
theorem dX4_ticks_13 : decode cX4_ticks 13 = .ok (.iconst 0, 1) := by decide +kernel
theorem dX4_ticks_14 : decode cX4_ticks 14 = .ok (.istore_n 2, 1) := by decide +kernel
theorem dX4_ticks_15 : decode cX4_ticks 15 = .ok (.iconst 0, 1) := by decide +kernel
theorem dX4_ticks_16 : decode cX4_ticks 16 = .ok (.istore_n 3, 1) := by decide +kernel
theorem dX4_ticks_17 : decode cX4_ticks 17 = .ok (.iload_n 3, 1) := by decide +kernel
theorem dX4_ticks_18 : decode cX4_ticks 18 = .ok (.iload_n 1, 1) := by decide +kernel
theorem dX4_ticks_19 : decode cX4_ticks 19 = .ok (.if_icmp .ge 39, 3) := by decide +kernel
theorem dX4_ticks_22 : decode cX4_ticks 22 = .ok (.aload_n 0, 1) := by decide +kernel
theorem dX4_ticks_23 : decode cX4_ticks 23 = .ok (.invokevirtual 158, 3) := by decide +kernel
theorem dX4_ticks_26 : decode cX4_ticks 26 = .ok (.aload_n 0, 1) := by decide +kernel
theorem dX4_ticks_27 : decode cX4_ticks 27 = .ok (.dup, 1) := by decide +kernel
theorem dX4_ticks_28 : decode cX4_ticks 28 = .ok (.getfield 161, 3) := by decide +kernel
theorem dX4_ticks_31 : decode cX4_ticks 31 = .ok (.iconst 1, 1) := by decide +kernel
theorem dX4_ticks_32 : decode cX4_ticks 32 = .ok (.iadd, 1) := by decide +kernel
theorem dX4_ticks_33 : decode cX4_ticks 33 = .ok (.putfield 161, 3) := by decide +kernel
theorem dX4_ticks_36 : decode cX4_ticks 36 = .ok (.iload_n 2, 1) := by decide +kernel
theorem dX4_ticks_37 : decode cX4_ticks 37 = .ok (.aload_n 0, 1) := by decide +kernel
theorem dX4_ticks_38 : decode cX4_ticks 38 = .ok (.iconst 0, 1) := by decide +kernel
theorem dX4_ticks_39 : decode cX4_ticks 39 = .ok (.invokevirtual 164, 3) := by decide +kernel
theorem dX4_ticks_42 : decode cX4_ticks 42 = .ok (.ifCond .eq 7, 3) := by decide +kernel
theorem dX4_ticks_45 : decode cX4_ticks 45 = .ok (.iconst 1, 1) := by decide +kernel
theorem dX4_ticks_46 : decode cX4_ticks 46 = .ok (.goto 4, 3) := by decide +kernel
theorem dX4_ticks_49 : decode cX4_ticks 49 = .ok (.iconst 0, 1) := by decide +kernel
theorem dX4_ticks_50 : decode cX4_ticks 50 = .ok (.iadd, 1) := by decide +kernel
theorem dX4_ticks_51 : decode cX4_ticks 51 = .ok (.istore_n 2, 1) := by decide +kernel
theorem dX4_ticks_52 : decode cX4_ticks 52 = .ok (.iinc 3 1, 3) := by decide +kernel
theorem dX4_ticks_55 : decode cX4_ticks 55 = .ok (.goto (-38), 3) := by decide +kernel
theorem dX4_ticks_58 : decode cX4_ticks 58 = .ok (.iload_n 2, 1) := by decide +kernel
theorem dX4_ticks_59 : decode cX4_ticks 59 = .ok (.ireturn, 1) := by decide +kernel
theorem dX4_isThere_0 : decode cX4_isThere 0 = .ok (.iload_n 1, 1) := by decide +kernel
theorem dX4_isThere_1 : decode cX4_isThere 1 = .ok (.invokestatic 88, 3) := by decide +kernel
theorem dX4_isThere_4 : decode cX4_isThere 4 = .ok (.ifCond .eq 24, 3) := by decide +kernel
theorem dX4_isThere_7 : decode cX4_isThere 7 = .ok (.aload_n 0, 1) := by decide +kernel
theorem dX4_isThere_8 : decode cX4_isThere 8 = .ok (.iload_n 2, 1) := by decide +kernel
theorem dX4_isThere_9 : decode cX4_isThere 9 = .ok (.invokevirtual 96, 3) := by decide +kernel
theorem dX4_isThere_12 : decode cX4_isThere 12 = .ok (.ifCond .eq 16, 3) := by decide +kernel
theorem dX4_isThere_15 : decode cX4_isThere 15 = .ok (.aload_n 0, 1) := by decide +kernel
theorem dX4_isThere_16 : decode cX4_isThere 16 = .ok (.iload_n 2, 1) := by decide +kernel
theorem dX4_isThere_17 : decode cX4_isThere 17 = .ok (.iload_n 1, 1) := by decide +kernel
theorem dX4_isThere_18 : decode cX4_isThere 18 = .ok (.invokevirtual 116, 3) := by decide +kernel
theorem dX4_isThere_21 : decode cX4_isThere 21 = .ok (.ifCond .eq 7, 3) := by decide +kernel
theorem dX4_isThere_24 : decode cX4_isThere 24 = .ok (.iconst 1, 1) := by decide +kernel
theorem dX4_isThere_25 : decode cX4_isThere 25 = .ok (.goto 4, 3) := by decide +kernel
theorem dX4_isThere_28 : decode cX4_isThere 28 = .ok (.iconst 0, 1) := by decide +kernel
theorem dX4_isThere_29 : decode cX4_isThere 29 = .ok (.ireturn, 1) := by decide +kernel
theorem dX4_tell_0 : decode cX4_tell 0 = .ok (.iload_n 2, 1) := by decide +kernel
theorem dX4_tell_1 : decode cX4_tell 1 = .ok (.iconst 0, 1) := by decide +kernel
theorem dX4_tell_2 : decode cX4_tell 2 = .ok (.iconst 1, 1) := by decide +kernel
theorem dX4_tell_3 : decode cX4_tell 3 = .ok (.invokestatic 80, 3) := by decide +kernel
theorem dX4_tell_6 : decode cX4_tell 6 = .ok (.ifCond .ne 6, 3) := by decide +kernel
theorem dX4_tell_9 : decode cX4_tell 9 = .ok (.bipush (-2), 2) := by decide +kernel
theorem dX4_tell_11 : decode cX4_tell 11 = .ok (.ireturn, 1) := by decide +kernel
theorem dX4_tell_12 : decode cX4_tell 12 = .ok (.iload_n 0, 1) := by decide +kernel
theorem dX4_tell_13 : decode cX4_tell 13 = .ok (.ifCond .ne 8, 3) := by decide +kernel
theorem dX4_tell_16 : decode cX4_tell 16 = .ok (.bipush (-9), 2) := by decide +kernel
theorem dX4_tell_18 : decode cX4_tell 18 = .ok (.goto 12, 3) := by decide +kernel
theorem dX4_tell_21 : decode cX4_tell 21 = .ok (.iload_n 2, 1) := by decide +kernel
theorem dX4_tell_22 : decode cX4_tell 22 = .ok (.ifCond .ne 7, 3) := by decide +kernel
theorem dX4_tell_25 : decode cX4_tell 25 = .ok (.iload_n 0, 1) := by decide +kernel
theorem dX4_tell_26 : decode cX4_tell 26 = .ok (.goto 4, 3) := by decide +kernel
theorem dX4_tell_29 : decode cX4_tell 29 = .ok (.iload_n 1, 1) := by decide +kernel
theorem dX4_tell_30 : decode cX4_tell 30 = .ok (.ireturn, 1) := by decide +kernel
theorem dX4_handed_0 : decode cX4_handed 0 = .ok (.aload_n 0, 1) := by decide +kernel
theorem dX4_handed_1 : decode cX4_handed 1 = .ok (.iload_n 1, 1) := by decide +kernel
theorem dX4_handed_2 : decode cX4_handed 2 = .ok (.iload_n 2, 1) := by decide +kernel
theorem dX4_handed_3 : decode cX4_handed 3 = .ok (.invokevirtual 168, 3) := by decide +kernel
theorem dX4_handed_6 : decode cX4_handed 6 = .ok (.ifCond .eq 10, 3) := by decide +kernel
theorem dX4_handed_9 : decode cX4_handed 9 = .ok (.iload_n 3, 1) := by decide +kernel
theorem dX4_handed_10 : decode cX4_handed 10 = .ok (.invokestatic 99, 3) := by decide +kernel
theorem dX4_handed_13 : decode cX4_handed 13 = .ok (.ifCond .ne 5, 3) := by decide +kernel
theorem dX4_handed_16 : decode cX4_handed 16 = .ok (.iconst (-1), 1) := by decide +kernel
theorem dX4_handed_17 : decode cX4_handed 17 = .ok (.ireturn, 1) := by decide +kernel
theorem dX4_handed_18 : decode cX4_handed 18 = .ok (.aload_n 0, 1) := by decide +kernel
theorem dX4_handed_19 : decode cX4_handed 19 = .ok (.getfield 35, 3) := by decide +kernel
theorem dX4_handed_22 : decode cX4_handed 22 = .ok (.iload_n 1, 1) := by decide +kernel
theorem dX4_handed_23 : decode cX4_handed 23 = .ok (.iload_n 2, 1) := by decide +kernel
theorem dX4_handed_24 : decode cX4_handed 24 = .ok (.iload_n 3, 1) := by decide +kernel
theorem dX4_handed_25 : decode cX4_handed 25 = .ok (.invokestatic 109, 3) := by decide +kernel
theorem dX4_handed_28 : decode cX4_handed 28 = .ok (.iaload, 1) := by decide +kernel
theorem dX4_handed_29 : decode cX4_handed 29 = .ok (.aload_n 0, 1) := by decide +kernel
theorem dX4_handed_30 : decode cX4_handed 30 = .ok (.getfield 38, 3) := by decide +kernel
theorem dX4_handed_33 : decode cX4_handed 33 = .ok (.iload_n 1, 1) := by decide +kernel
theorem dX4_handed_34 : decode cX4_handed 34 = .ok (.iload_n 2, 1) := by decide +kernel
theorem dX4_handed_35 : decode cX4_handed 35 = .ok (.iload_n 3, 1) := by decide +kernel
theorem dX4_handed_36 : decode cX4_handed 36 = .ok (.invokestatic 109, 3) := by decide +kernel
theorem dX4_handed_39 : decode cX4_handed 39 = .ok (.iaload, 1) := by decide +kernel
theorem dX4_handed_40 : decode cX4_handed 40 = .ok (.iload 4, 2) := by decide +kernel
theorem dX4_handed_42 : decode cX4_handed 42 = .ok (.invokestatic 171, 3) := by decide +kernel
theorem dX4_handed_45 : decode cX4_handed 45 = .ok (.ireturn, 1) := by decide +kernel
theorem dX4_kept_0 : decode cX4_kept 0 = .ok (.aload_n 0, 1) := by decide +kernel
theorem dX4_kept_1 : decode cX4_kept 1 = .ok (.iload_n 1, 1) := by decide +kernel
theorem dX4_kept_2 : decode cX4_kept 2 = .ok (.iload_n 2, 1) := by decide +kernel
theorem dX4_kept_3 : decode cX4_kept 3 = .ok (.invokevirtual 168, 3) := by decide +kernel
theorem dX4_kept_6 : decode cX4_kept 6 = .ok (.ifCond .eq 10, 3) := by decide +kernel
theorem dX4_kept_9 : decode cX4_kept 9 = .ok (.iload_n 3, 1) := by decide +kernel
theorem dX4_kept_10 : decode cX4_kept 10 = .ok (.invokestatic 99, 3) := by decide +kernel
theorem dX4_kept_13 : decode cX4_kept 13 = .ok (.ifCond .ne 5, 3) := by decide +kernel
theorem dX4_kept_16 : decode cX4_kept 16 = .ok (.iconst (-1), 1) := by decide +kernel
theorem dX4_kept_17 : decode cX4_kept 17 = .ok (.ireturn, 1) := by decide +kernel
theorem dX4_kept_18 : decode cX4_kept 18 = .ok (.aload_n 0, 1) := by decide +kernel
theorem dX4_kept_19 : decode cX4_kept 19 = .ok (.getfield 41, 3) := by decide +kernel
theorem dX4_kept_22 : decode cX4_kept 22 = .ok (.iload_n 1, 1) := by decide +kernel
theorem dX4_kept_23 : decode cX4_kept 23 = .ok (.iload_n 2, 1) := by decide +kernel
theorem dX4_kept_24 : decode cX4_kept 24 = .ok (.iload_n 3, 1) := by decide +kernel
theorem dX4_kept_25 : decode cX4_kept 25 = .ok (.invokestatic 109, 3) := by decide +kernel
theorem dX4_kept_28 : decode cX4_kept 28 = .ok (.iaload, 1) := by decide +kernel
theorem dX4_kept_29 : decode cX4_kept 29 = .ok (.aload_n 0, 1) := by decide +kernel
theorem dX4_kept_30 : decode cX4_kept 30 = .ok (.getfield 44, 3) := by decide +kernel
theorem dX4_kept_33 : decode cX4_kept 33 = .ok (.iload_n 1, 1) := by decide +kernel
theorem dX4_kept_34 : decode cX4_kept 34 = .ok (.iload_n 2, 1) := by decide +kernel
theorem dX4_kept_35 : decode cX4_kept 35 = .ok (.iload_n 3, 1) := by decide +kernel
theorem dX4_kept_36 : decode cX4_kept 36 = .ok (.invokestatic 109, 3) := by decide +kernel
theorem dX4_kept_39 : decode cX4_kept 39 = .ok (.iaload, 1) := by decide +kernel
theorem dX4_kept_40 : decode cX4_kept 40 = .ok (.iload 4, 2) := by decide +kernel
theorem dX4_kept_42 : decode cX4_kept 42 = .ok (.invokestatic 171, 3) := by decide +kernel
theorem dX4_kept_45 : decode cX4_kept 45 = .ok (.ireturn, 1) := by decide +kernel
theorem dX4_usedLabel_0 : decode cX4_usedLabel 0 = .ok (.aload_n 0, 1) := by decide +kernel
theorem dX4_usedLabel_1 : decode cX4_usedLabel 1 = .ok (.iload_n 1, 1) := by decide +kernel
theorem dX4_usedLabel_2 : decode cX4_usedLabel 2 = .ok (.iload_n 2, 1) := by decide +kernel
theorem dX4_usedLabel_3 : decode cX4_usedLabel 3 = .ok (.invokevirtual 113, 3) := by decide +kernel
theorem dX4_usedLabel_6 : decode cX4_usedLabel 6 = .ok (.istore_n 3, 1) := by decide +kernel
theorem dX4_usedLabel_7 : decode cX4_usedLabel 7 = .ok (.iload_n 3, 1) := by decide +kernel
theorem dX4_usedLabel_8 : decode cX4_usedLabel 8 = .ok (.bipush (-9), 2) := by decide +kernel
theorem dX4_usedLabel_10 : decode cX4_usedLabel 10 = .ok (.if_icmp .ne 7, 3) := by decide +kernel
theorem dX4_usedLabel_13 : decode cX4_usedLabel 13 = .ok (.iconst 0, 1) := by decide +kernel
theorem dX4_usedLabel_14 : decode cX4_usedLabel 14 = .ok (.goto 9, 3) := by decide +kernel
theorem dX4_usedLabel_17 : decode cX4_usedLabel 17 = .ok (.aload_n 0, 1) := by decide +kernel
theorem dX4_usedLabel_18 : decode cX4_usedLabel 18 = .ok (.getfield 41, 3) := by decide +kernel
theorem dX4_usedLabel_21 : decode cX4_usedLabel 21 = .ok (.iload_n 3, 1) := by decide +kernel
theorem dX4_usedLabel_22 : decode cX4_usedLabel 22 = .ok (.iaload, 1) := by decide +kernel
theorem dX4_usedLabel_23 : decode cX4_usedLabel 23 = .ok (.ireturn, 1) := by decide +kernel
theorem dX4_used_0 : decode cX4_used 0 = .ok (.iload_n 1, 1) := by decide +kernel
theorem dX4_used_1 : decode cX4_used 1 = .ok (.invokestatic 88, 3) := by decide +kernel
theorem dX4_used_4 : decode cX4_used 4 = .ok (.ifCond .eq 10, 3) := by decide +kernel
theorem dX4_used_7 : decode cX4_used 7 = .ok (.iload_n 2, 1) := by decide +kernel
theorem dX4_used_8 : decode cX4_used 8 = .ok (.invokestatic 99, 3) := by decide +kernel
theorem dX4_used_11 : decode cX4_used 11 = .ok (.ifCond .ne 5, 3) := by decide +kernel
theorem dX4_used_14 : decode cX4_used 14 = .ok (.iconst (-1), 1) := by decide +kernel
theorem dX4_used_15 : decode cX4_used 15 = .ok (.ireturn, 1) := by decide +kernel
theorem dX4_used_16 : decode cX4_used 16 = .ok (.aload_n 0, 1) := by decide +kernel
theorem dX4_used_17 : decode cX4_used 17 = .ok (.iload_n 1, 1) := by decide +kernel
theorem dX4_used_18 : decode cX4_used 18 = .ok (.iload_n 2, 1) := by decide +kernel
theorem dX4_used_19 : decode cX4_used 19 = .ok (.invokevirtual 174, 3) := by decide +kernel
theorem dX4_used_22 : decode cX4_used 22 = .ok (.istore_n 3, 1) := by decide +kernel
theorem dX4_used_23 : decode cX4_used 23 = .ok (.iload_n 3, 1) := by decide +kernel
theorem dX4_used_24 : decode cX4_used 24 = .ok (.ifCond .ne 8, 3) := by decide +kernel
theorem dX4_used_27 : decode cX4_used 27 = .ok (.bipush (-9), 2) := by decide +kernel
theorem dX4_used_29 : decode cX4_used 29 = .ok (.goto 4, 3) := by decide +kernel
theorem dX4_used_32 : decode cX4_used 32 = .ok (.iload_n 3, 1) := by decide +kernel
theorem dX4_used_33 : decode cX4_used 33 = .ok (.ireturn, 1) := by decide +kernel
theorem dX4_meaningOf_0 : decode cX4_meaningOf 0 = .ok (.iconst 0, 1) := by decide +kernel
theorem dX4_meaningOf_1 : decode cX4_meaningOf 1 = .ok (.istore 4, 2) := by decide +kernel
theorem dX4_meaningOf_3 : decode cX4_meaningOf 3 = .ok (.iload 4, 2) := by decide +kernel
theorem dX4_meaningOf_5 : decode cX4_meaningOf 5 = .ok (.iconst 4, 1) := by decide +kernel
theorem dX4_meaningOf_6 : decode cX4_meaningOf 6 = .ok (.if_icmp .ge 90, 3) := by decide +kernel
theorem dX4_meaningOf_9 : decode cX4_meaningOf 9 = .ok (.iconst 0, 1) := by decide +kernel
theorem dX4_meaningOf_10 : decode cX4_meaningOf 10 = .ok (.istore 5, 2) := by decide +kernel
theorem dX4_meaningOf_12 : decode cX4_meaningOf 12 = .ok (.iload 5, 2) := by decide +kernel
theorem dX4_meaningOf_14 : decode cX4_meaningOf 14 = .ok (.aload_n 0, 1) := by decide +kernel
theorem dX4_meaningOf_15 : decode cX4_meaningOf 15 = .ok (.getfield 84, 3) := by decide +kernel
theorem dX4_meaningOf_18 : decode cX4_meaningOf 18 = .ok (.if_icmp .ge 72, 3) := by decide +kernel
theorem dX4_meaningOf_21 : decode cX4_meaningOf 21 = .ok (.aload_n 0, 1) := by decide +kernel
theorem dX4_meaningOf_22 : decode cX4_meaningOf 22 = .ok (.getfield 35, 3) := by decide +kernel
theorem dX4_meaningOf_25 : decode cX4_meaningOf 25 = .ok (.iload_n 1, 1) := by decide +kernel
theorem dX4_meaningOf_26 : decode cX4_meaningOf 26 = .ok (.iload 5, 2) := by decide +kernel
theorem dX4_meaningOf_28 : decode cX4_meaningOf 28 = .ok (.iload 4, 2) := by decide +kernel
theorem dX4_meaningOf_30 : decode cX4_meaningOf 30 = .ok (.invokestatic 109, 3) := by decide +kernel
