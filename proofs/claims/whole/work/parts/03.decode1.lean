theorem dX0_init_0 : decode cX0_init 0 = .ok (.aload_n 0, 1) := by decide +kernel
theorem dX0_init_1 : decode cX0_init 1 = .ok (.invokespecial 3, 3) := by decide +kernel
theorem dX0_init_4 : decode cX0_init 4 = .ok (.aload_n 0, 1) := by decide +kernel
theorem dX0_init_5 : decode cX0_init 5 = .ok (.iconst 1, 1) := by decide +kernel
theorem dX0_init_6 : decode cX0_init 6 = .ok (.putfield 9, 3) := by decide +kernel
theorem dX0_init_9 : decode cX0_init 9 = .ok (.aload_n 0, 1) := by decide +kernel
theorem dX0_init_10 : decode cX0_init 10 = .ok (.bipush 7, 2) := by decide +kernel
theorem dX0_init_12 : decode cX0_init 12 = .ok (.putfield 15, 3) := by decide +kernel
theorem dX0_init_15 : decode cX0_init 15 = .ok (.aload_n 0, 1) := by decide +kernel
theorem dX0_init_16 : decode cX0_init 16 = .ok (.bipush 96, 2) := by decide +kernel
theorem dX0_init_18 : decode cX0_init 18 = .ok (.newarray .int, 2) := by decide +kernel
theorem dX0_init_20 : decode cX0_init 20 = .ok (.putfield 18, 3) := by decide +kernel
theorem dX0_init_23 : decode cX0_init 23 = .ok (.aload_n 0, 1) := by decide +kernel
theorem dX0_init_24 : decode cX0_init 24 = .ok (.bipush 96, 2) := by decide +kernel
theorem dX0_init_26 : decode cX0_init 26 = .ok (.newarray .int, 2) := by decide +kernel
theorem dX0_init_28 : decode cX0_init 28 = .ok (.putfield 22, 3) := by decide +kernel
theorem dX0_init_31 : decode cX0_init 31 = .ok (.aload_n 0, 1) := by decide +kernel
theorem dX0_init_32 : decode cX0_init 32 = .ok (.bipush 28, 2) := by decide +kernel
theorem dX0_init_34 : decode cX0_init 34 = .ok (.newarray .int, 2) := by decide +kernel
theorem dX0_init_36 : decode cX0_init 36 = .ok (.putfield 25, 3) := by decide +kernel
theorem dX0_init_39 : decode cX0_init 39 = .ok (.aload_n 0, 1) := by decide +kernel
theorem dX0_init_40 : decode cX0_init 40 = .ok (.bipush 96, 2) := by decide +kernel
theorem dX0_init_42 : decode cX0_init 42 = .ok (.newarray .int, 2) := by decide +kernel
theorem dX0_init_44 : decode cX0_init 44 = .ok (.putfield 28, 3) := by decide +kernel
theorem dX0_init_47 : decode cX0_init 47 = .ok (.aload_n 0, 1) := by decide +kernel
theorem dX0_init_48 : decode cX0_init 48 = .ok (.iconst 4, 1) := by decide +kernel
theorem dX0_init_49 : decode cX0_init 49 = .ok (.newarray .int, 2) := by decide +kernel
theorem dX0_init_51 : decode cX0_init 51 = .ok (.putfield 31, 3) := by decide +kernel
theorem dX0_init_54 : decode cX0_init 54 = .ok (.aload_n 0, 1) := by decide +kernel
theorem dX0_init_55 : decode cX0_init 55 = .ok (.iconst 4, 1) := by decide +kernel
theorem dX0_init_56 : decode cX0_init 56 = .ok (.newarray .int, 2) := by decide +kernel
theorem dX0_init_58 : decode cX0_init 58 = .ok (.putfield 34, 3) := by decide +kernel
theorem dX0_init_61 : decode cX0_init 61 = .ok (.aload_n 0, 1) := by decide +kernel
theorem dX0_init_62 : decode cX0_init 62 = .ok (.bipush 96, 2) := by decide +kernel
theorem dX0_init_64 : decode cX0_init 64 = .ok (.newarray .int, 2) := by decide +kernel
theorem dX0_init_66 : decode cX0_init 66 = .ok (.putfield 37, 3) := by decide +kernel
theorem dX0_init_69 : decode cX0_init 69 = .ok (.aload_n 0, 1) := by decide +kernel
theorem dX0_init_70 : decode cX0_init 70 = .ok (.bipush 96, 2) := by decide +kernel
theorem dX0_init_72 : decode cX0_init 72 = .ok (.newarray .int, 2) := by decide +kernel
theorem dX0_init_74 : decode cX0_init 74 = .ok (.putfield 40, 3) := by decide +kernel
theorem dX0_init_77 : decode cX0_init 77 = .ok (.aload_n 0, 1) := by decide +kernel
theorem dX0_init_78 : decode cX0_init 78 = .ok (.aload_n 1, 1) := by decide +kernel
theorem dX0_init_79 : decode cX0_init 79 = .ok (.putfield 43, 3) := by decide +kernel
theorem dX0_init_82 : decode cX0_init 82 = .ok (.return_, 1) := by decide +kernel
theorem dX0_has_0 : decode cX0_has 0 = .ok (.aload_n 0, 1) := by decide +kernel
theorem dX0_has_1 : decode cX0_has 1 = .ok (.getfield 25, 3) := by decide +kernel
theorem dX0_has_4 : decode cX0_has 4 = .ok (.iload_n 1, 1) := by decide +kernel
theorem dX0_has_5 : decode cX0_has 5 = .ok (.iconst 4, 1) := by decide +kernel
theorem dX0_has_6 : decode cX0_has 6 = .ok (.imul, 1) := by decide +kernel
theorem dX0_has_7 : decode cX0_has 7 = .ok (.iload_n 2, 1) := by decide +kernel
theorem dX0_has_8 : decode cX0_has 8 = .ok (.iadd, 1) := by decide +kernel
theorem dX0_has_9 : decode cX0_has 9 = .ok (.iaload, 1) := by decide +kernel
theorem dX0_has_10 : decode cX0_has 10 = .ok (.iconst 1, 1) := by decide +kernel
theorem dX0_has_11 : decode cX0_has 11 = .ok (.if_icmp .ne 7, 3) := by decide +kernel
theorem dX0_has_14 : decode cX0_has 14 = .ok (.iconst 1, 1) := by decide +kernel
theorem dX0_has_15 : decode cX0_has 15 = .ok (.goto 4, 3) := by decide +kernel
theorem dX0_has_18 : decode cX0_has 18 = .ok (.iconst 0, 1) := by decide +kernel
theorem dX0_has_19 : decode cX0_has 19 = .ok (.ireturn, 1) := by decide +kernel
theorem dX0_changeMode_0 : decode cX0_changeMode 0 = .ok (.aload_n 0, 1) := by decide +kernel
theorem dX0_changeMode_1 : decode cX0_changeMode 1 = .ok (.getfield 25, 3) := by decide +kernel
theorem dX0_changeMode_4 : decode cX0_changeMode 4 = .ok (.iload_n 1, 1) := by decide +kernel
theorem dX0_changeMode_5 : decode cX0_changeMode 5 = .ok (.iconst 4, 1) := by decide +kernel
theorem dX0_changeMode_6 : decode cX0_changeMode 6 = .ok (.imul, 1) := by decide +kernel
theorem dX0_changeMode_7 : decode cX0_changeMode 7 = .ok (.iload_n 2, 1) := by decide +kernel
theorem dX0_changeMode_8 : decode cX0_changeMode 8 = .ok (.iadd, 1) := by decide +kernel
theorem dX0_changeMode_9 : decode cX0_changeMode 9 = .ok (.iaload, 1) := by decide +kernel
theorem dX0_changeMode_10 : decode cX0_changeMode 10 = .ok (.istore 4, 2) := by decide +kernel
theorem dX0_changeMode_12 : decode cX0_changeMode 12 = .ok (.aload_n 0, 1) := by decide +kernel
theorem dX0_changeMode_13 : decode cX0_changeMode 13 = .ok (.getfield 25, 3) := by decide +kernel
theorem dX0_changeMode_16 : decode cX0_changeMode 16 = .ok (.iload_n 1, 1) := by decide +kernel
theorem dX0_changeMode_17 : decode cX0_changeMode 17 = .ok (.iconst 4, 1) := by decide +kernel
theorem dX0_changeMode_18 : decode cX0_changeMode 18 = .ok (.imul, 1) := by decide +kernel
theorem dX0_changeMode_19 : decode cX0_changeMode 19 = .ok (.iload_n 2, 1) := by decide +kernel
theorem dX0_changeMode_20 : decode cX0_changeMode 20 = .ok (.iadd, 1) := by decide +kernel
theorem dX0_changeMode_21 : decode cX0_changeMode 21 = .ok (.iload_n 3, 1) := by decide +kernel
theorem dX0_changeMode_22 : decode cX0_changeMode 22 = .ok (.iastore, 1) := by decide +kernel
theorem dX0_changeMode_23 : decode cX0_changeMode 23 = .ok (.iload_n 2, 1) := by decide +kernel
theorem dX0_changeMode_24 : decode cX0_changeMode 24 = .ok (.iconst 2, 1) := by decide +kernel
theorem dX0_changeMode_25 : decode cX0_changeMode 25 = .ok (.if_icmp .ne 14, 3) := by decide +kernel
theorem dX0_changeMode_28 : decode cX0_changeMode 28 = .ok (.iload_n 3, 1) := by decide +kernel
theorem dX0_changeMode_29 : decode cX0_changeMode 29 = .ok (.iload 4, 2) := by decide +kernel
theorem dX0_changeMode_31 : decode cX0_changeMode 31 = .ok (.if_icmp .eq 8, 3) := by decide +kernel
theorem dX0_changeMode_34 : decode cX0_changeMode 34 = .ok (.aload_n 0, 1) := by decide +kernel
theorem dX0_changeMode_35 : decode cX0_changeMode 35 = .ok (.iload_n 1, 1) := by decide +kernel
theorem dX0_changeMode_36 : decode cX0_changeMode 36 = .ok (.invokevirtual 47, 3) := by decide +kernel
theorem dX0_changeMode_39 : decode cX0_changeMode 39 = .ok (.iload 4, 2) := by decide +kernel
theorem dX0_changeMode_41 : decode cX0_changeMode 41 = .ok (.ireturn, 1) := by decide +kernel
theorem dX0_handNothing_0 : decode cX0_handNothing 0 = .ok (.iconst 0, 1) := by decide +kernel
theorem dX0_handNothing_1 : decode cX0_handNothing 1 = .ok (.istore_n 2, 1) := by decide +kernel
theorem dX0_handNothing_2 : decode cX0_handNothing 2 = .ok (.iload_n 2, 1) := by decide +kernel
theorem dX0_handNothing_3 : decode cX0_handNothing 3 = .ok (.iconst 2, 1) := by decide +kernel
theorem dX0_handNothing_4 : decode cX0_handNothing 4 = .ok (.aload_n 0, 1) := by decide +kernel
theorem dX0_handNothing_5 : decode cX0_handNothing 5 = .ok (.getfield 43, 3) := by decide +kernel
theorem dX0_handNothing_8 : decode cX0_handNothing 8 = .ok (.getfield 51, 3) := by decide +kernel
theorem dX0_handNothing_11 : decode cX0_handNothing 11 = .ok (.imul, 1) := by decide +kernel
theorem dX0_handNothing_12 : decode cX0_handNothing 12 = .ok (.iconst 0, 1) := by decide +kernel
theorem dX0_handNothing_13 : decode cX0_handNothing 13 = .ok (.invokestatic 56, 3) := by decide +kernel
theorem dX0_handNothing_16 : decode cX0_handNothing 16 = .ok (.if_icmp .ge 31, 3) := by decide +kernel
theorem dX0_handNothing_19 : decode cX0_handNothing 19 = .ok (.aload_n 0, 1) := by decide +kernel
theorem dX0_handNothing_20 : decode cX0_handNothing 20 = .ok (.getfield 43, 3) := by decide +kernel
theorem dX0_handNothing_23 : decode cX0_handNothing 23 = .ok (.getfield 60, 3) := by decide +kernel
theorem dX0_handNothing_26 : decode cX0_handNothing 26 = .ok (.iload_n 2, 1) := by decide +kernel
theorem dX0_handNothing_27 : decode cX0_handNothing 27 = .ok (.iconst 4, 1) := by decide +kernel
theorem dX0_handNothing_28 : decode cX0_handNothing 28 = .ok (.idiv, 1) := by decide +kernel
theorem dX0_handNothing_29 : decode cX0_handNothing 29 = .ok (.iaload, 1) := by decide +kernel
theorem dX0_handNothing_30 : decode cX0_handNothing 30 = .ok (.iload_n 1, 1) := by decide +kernel
theorem dX0_handNothing_31 : decode cX0_handNothing 31 = .ok (.if_icmp .ne 10, 3) := by decide +kernel
theorem dX0_handNothing_34 : decode cX0_handNothing 34 = .ok (.aload_n 0, 1) := by decide +kernel
theorem dX0_handNothing_35 : decode cX0_handNothing 35 = .ok (.getfield 18, 3) := by decide +kernel
theorem dX0_handNothing_38 : decode cX0_handNothing 38 = .ok (.iload_n 2, 1) := by decide +kernel
theorem dX0_handNothing_39 : decode cX0_handNothing 39 = .ok (.iconst 0, 1) := by decide +kernel
theorem dX0_handNothing_40 : decode cX0_handNothing 40 = .ok (.iastore, 1) := by decide +kernel
theorem dX0_handNothing_41 : decode cX0_handNothing 41 = .ok (.iinc 2 1, 3) := by decide +kernel
theorem dX0_handNothing_44 : decode cX0_handNothing 44 = .ok (.goto (-42), 3) := by decide +kernel
theorem dX0_handNothing_47 : decode cX0_handNothing 47 = .ok (.return_, 1) := by decide +kernel
theorem dX0_forgetLink_0 : decode cX0_forgetLink 0 = .ok (.iconst 2, 1) := by decide +kernel
theorem dX0_forgetLink_1 : decode cX0_forgetLink 1 = .ok (.iload_n 1, 1) := by decide +kernel
theorem dX0_forgetLink_2 : decode cX0_forgetLink 2 = .ok (.imul, 1) := by decide +kernel
theorem dX0_forgetLink_3 : decode cX0_forgetLink 3 = .ok (.iconst 0, 1) := by decide +kernel
theorem dX0_forgetLink_4 : decode cX0_forgetLink 4 = .ok (.invokestatic 56, 3) := by decide +kernel
theorem dX0_forgetLink_7 : decode cX0_forgetLink 7 = .ok (.istore_n 2, 1) := by decide +kernel
theorem dX0_forgetLink_8 : decode cX0_forgetLink 8 = .ok (.iload_n 2, 1) := by decide +kernel
theorem dX0_forgetLink_9 : decode cX0_forgetLink 9 = .ok (.iconst 2, 1) := by decide +kernel
theorem dX0_forgetLink_10 : decode cX0_forgetLink 10 = .ok (.iload_n 1, 1) := by decide +kernel
theorem dX0_forgetLink_11 : decode cX0_forgetLink 11 = .ok (.imul, 1) := by decide +kernel
theorem dX0_forgetLink_12 : decode cX0_forgetLink 12 = .ok (.iconst 2, 1) := by decide +kernel
theorem dX0_forgetLink_13 : decode cX0_forgetLink 13 = .ok (.iadd, 1) := by decide +kernel
theorem dX0_forgetLink_14 : decode cX0_forgetLink 14 = .ok (.iconst 0, 1) := by decide +kernel
theorem dX0_forgetLink_15 : decode cX0_forgetLink 15 = .ok (.invokestatic 56, 3) := by decide +kernel
theorem dX0_forgetLink_18 : decode cX0_forgetLink 18 = .ok (.if_icmp .ge 23, 3) := by decide +kernel
theorem dX0_forgetLink_21 : decode cX0_forgetLink 21 = .ok (.aload_n 0, 1) := by decide +kernel
theorem dX0_forgetLink_22 : decode cX0_forgetLink 22 = .ok (.getfield 18, 3) := by decide +kernel
theorem dX0_forgetLink_25 : decode cX0_forgetLink 25 = .ok (.iload_n 2, 1) := by decide +kernel
theorem dX0_forgetLink_26 : decode cX0_forgetLink 26 = .ok (.iconst 0, 1) := by decide +kernel
theorem dX0_forgetLink_27 : decode cX0_forgetLink 27 = .ok (.iastore, 1) := by decide +kernel
theorem dX0_forgetLink_28 : decode cX0_forgetLink 28 = .ok (.aload_n 0, 1) := by decide +kernel
theorem dX0_forgetLink_29 : decode cX0_forgetLink 29 = .ok (.getfield 22, 3) := by decide +kernel
theorem dX0_forgetLink_32 : decode cX0_forgetLink 32 = .ok (.iload_n 2, 1) := by decide +kernel
theorem dX0_forgetLink_33 : decode cX0_forgetLink 33 = .ok (.iconst 0, 1) := by decide +kernel
theorem dX0_forgetLink_34 : decode cX0_forgetLink 34 = .ok (.iastore, 1) := by decide +kernel
theorem dX0_forgetLink_35 : decode cX0_forgetLink 35 = .ok (.iinc 2 1, 3) := by decide +kernel
theorem dX0_forgetLink_38 : decode cX0_forgetLink 38 = .ok (.goto (-30), 3) := by decide +kernel
theorem dX0_forgetLink_41 : decode cX0_forgetLink 41 = .ok (.return_, 1) := by decide +kernel
theorem dX0_slipUsed_0 : decode cX0_slipUsed 0 = .ok (.aload_n 0, 1) := by decide +kernel
theorem dX0_slipUsed_1 : decode cX0_slipUsed 1 = .ok (.getfield 43, 3) := by decide +kernel
theorem dX0_slipUsed_4 : decode cX0_slipUsed 4 = .ok (.getfield 63, 3) := by decide +kernel
theorem dX0_slipUsed_7 : decode cX0_slipUsed 7 = .ok (.iload_n 1, 1) := by decide +kernel
theorem dX0_slipUsed_8 : decode cX0_slipUsed 8 = .ok (.iload_n 2, 1) := by decide +kernel
theorem dX0_slipUsed_9 : decode cX0_slipUsed 9 = .ok (.invokestatic 66, 3) := by decide +kernel
theorem dX0_slipUsed_12 : decode cX0_slipUsed 12 = .ok (.iaload, 1) := by decide +kernel
theorem dX0_slipUsed_13 : decode cX0_slipUsed 13 = .ok (.istore_n 3, 1) := by decide +kernel
theorem dX0_slipUsed_14 : decode cX0_slipUsed 14 = .ok (.iload_n 3, 1) := by decide +kernel
theorem dX0_slipUsed_15 : decode cX0_slipUsed 15 = .ok (.iconst (-1), 1) := by decide +kernel
theorem dX0_slipUsed_16 : decode cX0_slipUsed 16 = .ok (.if_icmp .ne 7, 3) := by decide +kernel
theorem dX0_slipUsed_19 : decode cX0_slipUsed 19 = .ok (.iconst 0, 1) := by decide +kernel
theorem dX0_slipUsed_20 : decode cX0_slipUsed 20 = .ok (.goto 13, 3) := by decide +kernel
theorem dX0_slipUsed_23 : decode cX0_slipUsed 23 = .ok (.aload_n 0, 1) := by decide +kernel
theorem dX0_slipUsed_24 : decode cX0_slipUsed 24 = .ok (.getfield 22, 3) := by decide +kernel
theorem dX0_slipUsed_27 : decode cX0_slipUsed 27 = .ok (.iload_n 3, 1) := by decide +kernel
theorem dX0_slipUsed_28 : decode cX0_slipUsed 28 = .ok (.iload_n 2, 1) := by decide +kernel
theorem dX0_slipUsed_29 : decode cX0_slipUsed 29 = .ok (.invokestatic 56, 3) := by decide +kernel
theorem dX0_slipUsed_32 : decode cX0_slipUsed 32 = .ok (.iaload, 1) := by decide +kernel
theorem dX0_slipUsed_33 : decode cX0_slipUsed 33 = .ok (.ireturn, 1) := by decide +kernel
theorem dX0_classMeant_0 : decode cX0_classMeant 0 = .ok (.aload_n 0, 1) := by decide +kernel
theorem dX0_classMeant_1 : decode cX0_classMeant 1 = .ok (.iload_n 1, 1) := by decide +kernel
theorem dX0_classMeant_2 : decode cX0_classMeant 2 = .ok (.iconst 2, 1) := by decide +kernel
theorem dX0_classMeant_3 : decode cX0_classMeant 3 = .ok (.invokevirtual 69, 3) := by decide +kernel
theorem dX0_classMeant_6 : decode cX0_classMeant 6 = .ok (.ifCond .eq 7, 3) := by decide +kernel
theorem dX0_classMeant_9 : decode cX0_classMeant 9 = .ok (.iload_n 2, 1) := by decide +kernel
theorem dX0_classMeant_10 : decode cX0_classMeant 10 = .ok (.goto 4, 3) := by decide +kernel
theorem dX0_classMeant_13 : decode cX0_classMeant 13 = .ok (.iconst 0, 1) := by decide +kernel
theorem dX0_classMeant_14 : decode cX0_classMeant 14 = .ok (.istore 4, 2) := by decide +kernel
theorem dX0_classMeant_16 : decode cX0_classMeant 16 = .ok (.aload_n 0, 1) := by decide +kernel
theorem dX0_classMeant_17 : decode cX0_classMeant 17 = .ok (.iload_n 1, 1) := by decide +kernel
theorem dX0_classMeant_18 : decode cX0_classMeant 18 = .ok (.iconst 2, 1) := by decide +kernel
theorem dX0_classMeant_19 : decode cX0_classMeant 19 = .ok (.invokevirtual 69, 3) := by decide +kernel
theorem dX0_classMeant_22 : decode cX0_classMeant 22 = .ok (.ifCond .eq 9, 3) := by decide +kernel
theorem dX0_classMeant_25 : decode cX0_classMeant 25 = .ok (.iload_n 2, 1) := by decide +kernel
theorem dX0_classMeant_26 : decode cX0_classMeant 26 = .ok (.iconst 1, 1) := by decide +kernel
theorem dX0_classMeant_27 : decode cX0_classMeant 27 = .ok (.iadd, 1) := by decide +kernel
theorem dX0_classMeant_28 : decode cX0_classMeant 28 = .ok (.goto 12, 3) := by decide +kernel
theorem dX0_classMeant_31 : decode cX0_classMeant 31 = .ok (.iconst 2, 1) := by decide +kernel
theorem dX0_classMeant_32 : decode cX0_classMeant 32 = .ok (.aload_n 0, 1) := by decide +kernel
theorem dX0_classMeant_33 : decode cX0_classMeant 33 = .ok (.getfield 43, 3) := by decide +kernel
theorem dX0_classMeant_36 : decode cX0_classMeant 36 = .ok (.getfield 51, 3) := by decide +kernel
theorem dX0_classMeant_39 : decode cX0_classMeant 39 = .ok (.imul, 1) := by decide +kernel
theorem dX0_classMeant_40 : decode cX0_classMeant 40 = .ok (.istore 5, 2) := by decide +kernel
theorem dX0_classMeant_42 : decode cX0_classMeant 42 = .ok (.iconst 0, 1) := by decide +kernel
theorem dX0_classMeant_43 : decode cX0_classMeant 43 = .ok (.istore 6, 2) := by decide +kernel
theorem dX0_classMeant_45 : decode cX0_classMeant 45 = .ok (.iload 6, 2) := by decide +kernel
theorem dX0_classMeant_47 : decode cX0_classMeant 47 = .ok (.iconst 4, 1) := by decide +kernel
theorem dX0_classMeant_48 : decode cX0_classMeant 48 = .ok (.if_icmp .ge 71, 3) := by decide +kernel
theorem dX0_classMeant_51 : decode cX0_classMeant 51 = .ok (.iload 4, 2) := by decide +kernel
theorem dX0_classMeant_53 : decode cX0_classMeant 53 = .ok (.istore 7, 2) := by decide +kernel
theorem dX0_classMeant_55 : decode cX0_classMeant 55 = .ok (.iload 7, 2) := by decide +kernel
theorem dX0_classMeant_57 : decode cX0_classMeant 57 = .ok (.iload 5, 2) := by decide +kernel
theorem dX0_classMeant_59 : decode cX0_classMeant 59 = .ok (.if_icmp .ge 54, 3) := by decide +kernel
theorem dX0_classMeant_62 : decode cX0_classMeant 62 = .ok (.aload_n 0, 1) := by decide +kernel
theorem dX0_classMeant_63 : decode cX0_classMeant 63 = .ok (.getfield 18, 3) := by decide +kernel
theorem dX0_classMeant_66 : decode cX0_classMeant 66 = .ok (.iload 7, 2) := by decide +kernel
theorem dX0_classMeant_68 : decode cX0_classMeant 68 = .ok (.iload 6, 2) := by decide +kernel
theorem dX0_classMeant_70 : decode cX0_classMeant 70 = .ok (.invokestatic 56, 3) := by decide +kernel
theorem dX0_classMeant_73 : decode cX0_classMeant 73 = .ok (.iaload, 1) := by decide +kernel
theorem dX0_classMeant_74 : decode cX0_classMeant 74 = .ok (.istore 8, 2) := by decide +kernel
theorem dX0_classMeant_76 : decode cX0_classMeant 76 = .ok (.aload_n 0, 1) := by decide +kernel
theorem dX0_classMeant_77 : decode cX0_classMeant 77 = .ok (.getfield 43, 3) := by decide +kernel
theorem dX0_classMeant_80 : decode cX0_classMeant 80 = .ok (.getfield 60, 3) := by decide +kernel
theorem dX0_classMeant_83 : decode cX0_classMeant 83 = .ok (.iload 7, 2) := by decide +kernel
theorem dX0_classMeant_85 : decode cX0_classMeant 85 = .ok (.iaload, 1) := by decide +kernel
theorem dX0_classMeant_86 : decode cX0_classMeant 86 = .ok (.iload_n 1, 1) := by decide +kernel
theorem dX0_classMeant_87 : decode cX0_classMeant 87 = .ok (.if_icmp .ne 20, 3) := by decide +kernel
theorem dX0_classMeant_90 : decode cX0_classMeant 90 = .ok (.iload 8, 2) := by decide +kernel
theorem dX0_classMeant_92 : decode cX0_classMeant 92 = .ok (.ifCond .eq 15, 3) := by decide +kernel
theorem dX0_classMeant_95 : decode cX0_classMeant 95 = .ok (.iload 8, 2) := by decide +kernel
theorem dX0_classMeant_97 : decode cX0_classMeant 97 = .ok (.invokestatic 73, 3) := by decide +kernel
theorem dX0_classMeant_100 : decode cX0_classMeant 100 = .ok (.iload_n 3, 1) := by decide +kernel
theorem dX0_classMeant_101 : decode cX0_classMeant 101 = .ok (.if_icmp .ne 6, 3) := by decide +kernel
theorem dX0_classMeant_104 : decode cX0_classMeant 104 = .ok (.iload 6, 2) := by decide +kernel
theorem dX0_classMeant_106 : decode cX0_classMeant 106 = .ok (.ireturn, 1) := by decide +kernel
theorem dX0_classMeant_107 : decode cX0_classMeant 107 = .ok (.iinc 7 1, 3) := by decide +kernel
theorem dX0_classMeant_110 : decode cX0_classMeant 110 = .ok (.goto (-55), 3) := by decide +kernel
theorem dX0_classMeant_113 : decode cX0_classMeant 113 = .ok (.iinc 6 1, 3) := by decide +kernel
theorem dX0_classMeant_116 : decode cX0_classMeant 116 = .ok (.goto (-71), 3) := by decide +kernel
theorem dX0_classMeant_119 : decode cX0_classMeant 119 = .ok (.iconst (-1), 1) := by decide +kernel
theorem dX0_classMeant_120 : decode cX0_classMeant 120 = .ok (.ireturn, 1) := by decide +kernel
theorem dX0_greatestLabel_0 : decode cX0_greatestLabel 0 = .ok (.iconst 0, 1) := by decide +kernel
theorem dX0_greatestLabel_1 : decode cX0_greatestLabel 1 = .ok (.istore_n 1, 1) := by decide +kernel
theorem dX0_greatestLabel_2 : decode cX0_greatestLabel 2 = .ok (.iconst 0, 1) := by decide +kernel
theorem dX0_greatestLabel_3 : decode cX0_greatestLabel 3 = .ok (.istore_n 2, 1) := by decide +kernel
theorem dX0_greatestLabel_4 : decode cX0_greatestLabel 4 = .ok (.iload_n 2, 1) := by decide +kernel
theorem dX0_greatestLabel_5 : decode cX0_greatestLabel 5 = .ok (.aload_n 0, 1) := by decide +kernel
theorem dX0_greatestLabel_6 : decode cX0_greatestLabel 6 = .ok (.getfield 18, 3) := by decide +kernel
theorem dX0_greatestLabel_9 : decode cX0_greatestLabel 9 = .ok (.arraylength, 1) := by decide +kernel
theorem dX0_greatestLabel_10 : decode cX0_greatestLabel 10 = .ok (.if_icmp .ge 23, 3) := by decide +kernel
theorem dX0_greatestLabel_13 : decode cX0_greatestLabel 13 = .ok (.iload_n 1, 1) := by decide +kernel
theorem dX0_greatestLabel_14 : decode cX0_greatestLabel 14 = .ok (.aload_n 0, 1) := by decide +kernel
theorem dX0_greatestLabel_15 : decode cX0_greatestLabel 15 = .ok (.getfield 18, 3) := by decide +kernel
theorem dX0_greatestLabel_18 : decode cX0_greatestLabel 18 = .ok (.iload_n 2, 1) := by decide +kernel
theorem dX0_greatestLabel_19 : decode cX0_greatestLabel 19 = .ok (.iaload, 1) := by decide +kernel
theorem dX0_greatestLabel_20 : decode cX0_greatestLabel 20 = .ok (.invokestatic 73, 3) := by decide +kernel
theorem dX0_greatestLabel_23 : decode cX0_greatestLabel 23 = .ok (.invokestatic 77, 3) := by decide +kernel
theorem dX0_greatestLabel_26 : decode cX0_greatestLabel 26 = .ok (.istore_n 1, 1) := by decide +kernel
theorem dX0_greatestLabel_27 : decode cX0_greatestLabel 27 = .ok (.iinc 2 1, 3) := by decide +kernel
theorem dX0_greatestLabel_30 : decode cX0_greatestLabel 30 = .ok (.goto (-26), 3) := by decide +kernel
theorem dX0_greatestLabel_33 : decode cX0_greatestLabel 33 = .ok (.iload_n 1, 1) := by decide +kernel
theorem dX0_greatestLabel_34 : decode cX0_greatestLabel 34 = .ok (.ireturn, 1) := by decide +kernel
theorem dX0_runTicks_0 : decode cX0_runTicks 0 = .ok (.iconst 0, 1) := by decide +kernel
theorem dX0_runTicks_1 : decode cX0_runTicks 1 = .ok (.istore_n 2, 1) := by decide +kernel
theorem dX0_runTicks_2 : decode cX0_runTicks 2 = .ok (.iconst 0, 1) := by decide +kernel
theorem dX0_runTicks_3 : decode cX0_runTicks 3 = .ok (.istore_n 3, 1) := by decide +kernel
theorem dX0_runTicks_4 : decode cX0_runTicks 4 = .ok (.iload_n 3, 1) := by decide +kernel
theorem dX0_runTicks_5 : decode cX0_runTicks 5 = .ok (.iload_n 1, 1) := by decide +kernel
theorem dX0_runTicks_6 : decode cX0_runTicks 6 = .ok (.if_icmp .ge 21, 3) := by decide +kernel
theorem dX0_runTicks_9 : decode cX0_runTicks 9 = .ok (.aload_n 0, 1) := by decide +kernel
theorem dX0_runTicks_10 : decode cX0_runTicks 10 = .ok (.invokevirtual 82, 3) := by decide +kernel
theorem dX0_runTicks_13 : decode cX0_runTicks 13 = .ok (.iconst 1, 1) := by decide +kernel
theorem dX0_runTicks_14 : decode cX0_runTicks 14 = .ok (.iand, 1) := by decide +kernel
theorem dX0_runTicks_15 : decode cX0_runTicks 15 = .ok (.ifCond .eq 6, 3) := by decide +kernel
theorem dX0_runTicks_18 : decode cX0_runTicks 18 = .ok (.iinc 2 1, 3) := by decide +kernel
theorem dX0_runTicks_21 : decode cX0_runTicks 21 = .ok (.iinc 3 1, 3) := by decide +kernel
theorem dX0_runTicks_24 : decode cX0_runTicks 24 = .ok (.goto (-20), 3) := by decide +kernel
theorem dX0_runTicks_27 : decode cX0_runTicks 27 = .ok (.aload_n 0, 1) := by decide +kernel
theorem dX0_runTicks_28 : decode cX0_runTicks 28 = .ok (.dup, 1) := by decide +kernel
theorem dX0_runTicks_29 : decode cX0_runTicks 29 = .ok (.getfield 86, 3) := by decide +kernel
theorem dX0_runTicks_32 : decode cX0_runTicks 32 = .ok (.iload_n 1, 1) := by decide +kernel
theorem dX0_runTicks_33 : decode cX0_runTicks 33 = .ok (.iadd, 1) := by decide +kernel
theorem dX0_runTicks_34 : decode cX0_runTicks 34 = .ok (.putfield 86, 3) := by decide +kernel
theorem dX0_runTicks_37 : decode cX0_runTicks 37 = .ok (.iload_n 2, 1) := by decide +kernel
theorem dX0_runTicks_38 : decode cX0_runTicks 38 = .ok (.ireturn, 1) := by decide +kernel
theorem dX0_ticksTillStill_0 : decode cX0_ticksTillStill 0 = .ok (.aload_n 0, 1) := by decide +kernel
theorem dX0_ticksTillStill_1 : decode cX0_ticksTillStill 1 = .ok (.getfield 18, 3) := by decide +kernel
theorem dX0_ticksTillStill_4 : decode cX0_ticksTillStill 4 = .ok (.iconst 0, 1) := by decide +kernel
theorem dX0_ticksTillStill_5 : decode cX0_ticksTillStill 5 = .ok (.aload_n 0, 1) := by decide +kernel
theorem dX0_ticksTillStill_6 : decode cX0_ticksTillStill 6 = .ok (.getfield 37, 3) := by decide +kernel
theorem dX0_ticksTillStill_9 : decode cX0_ticksTillStill 9 = .ok (.iconst 0, 1) := by decide +kernel
theorem dX0_ticksTillStill_10 : decode cX0_ticksTillStill 10 = .ok (.aload_n 0, 1) := by decide +kernel
theorem dX0_ticksTillStill_11 : decode cX0_ticksTillStill 11 = .ok (.getfield 37, 3) := by decide +kernel
theorem dX0_ticksTillStill_14 : decode cX0_ticksTillStill 14 = .ok (.arraylength, 1) := by decide +kernel
theorem dX0_ticksTillStill_15 : decode cX0_ticksTillStill 15 = .ok (.invokestatic 89, 3) := by decide +kernel
theorem dX0_ticksTillStill_18 : decode cX0_ticksTillStill 18 = .ok (.aload_n 0, 1) := by decide +kernel
theorem dX0_ticksTillStill_19 : decode cX0_ticksTillStill 19 = .ok (.getfield 22, 3) := by decide +kernel
theorem dX0_ticksTillStill_22 : decode cX0_ticksTillStill 22 = .ok (.iconst 0, 1) := by decide +kernel
theorem dX0_ticksTillStill_23 : decode cX0_ticksTillStill 23 = .ok (.aload_n 0, 1) := by decide +kernel
theorem dX0_ticksTillStill_24 : decode cX0_ticksTillStill 24 = .ok (.getfield 40, 3) := by decide +kernel
theorem dX0_ticksTillStill_27 : decode cX0_ticksTillStill 27 = .ok (.iconst 0, 1) := by decide +kernel
theorem dX0_ticksTillStill_28 : decode cX0_ticksTillStill 28 = .ok (.aload_n 0, 1) := by decide +kernel
theorem dX0_ticksTillStill_29 : decode cX0_ticksTillStill 29 = .ok (.getfield 40, 3) := by decide +kernel
theorem dX0_ticksTillStill_32 : decode cX0_ticksTillStill 32 = .ok (.arraylength, 1) := by decide +kernel
theorem dX0_ticksTillStill_33 : decode cX0_ticksTillStill 33 = .ok (.invokestatic 89, 3) := by decide +kernel
theorem dX0_ticksTillStill_36 : decode cX0_ticksTillStill 36 = .ok (.bipush (-9), 2) := by decide +kernel
theorem dX0_ticksTillStill_38 : decode cX0_ticksTillStill 38 = .ok (.istore_n 1, 1) := by decide +kernel
theorem dX0_ticksTillStill_39 : decode cX0_ticksTillStill 39 = .ok (.iconst 0, 1) := by decide +kernel
theorem dX0_ticksTillStill_40 : decode cX0_ticksTillStill 40 = .ok (.istore_n 2, 1) := by decide +kernel
theorem dX0_ticksTillStill_41 : decode cX0_ticksTillStill 41 = .ok (.iload_n 1, 1) := by decide +kernel
theorem dX0_ticksTillStill_42 : decode cX0_ticksTillStill 42 = .ok (.bipush (-9), 2) := by decide +kernel
theorem dX0_ticksTillStill_44 : decode cX0_ticksTillStill 44 = .ok (.if_icmp .ne 24, 3) := by decide +kernel
theorem dX0_ticksTillStill_47 : decode cX0_ticksTillStill 47 = .ok (.iload_n 2, 1) := by decide +kernel
theorem dX0_ticksTillStill_48 : decode cX0_ticksTillStill 48 = .ok (.bipush 30, 2) := by decide +kernel
theorem dX0_ticksTillStill_50 : decode cX0_ticksTillStill 50 = .ok (.if_icmp .ge 18, 3) := by decide +kernel
theorem dX0_ticksTillStill_53 : decode cX0_ticksTillStill 53 = .ok (.aload_n 0, 1) := by decide +kernel
theorem dX0_ticksTillStill_54 : decode cX0_ticksTillStill 54 = .ok (.invokevirtual 82, 3) := by decide +kernel
theorem dX0_ticksTillStill_57 : decode cX0_ticksTillStill 57 = .ok (.ifCond .ne 5, 3) := by decide +kernel
theorem dX0_ticksTillStill_60 : decode cX0_ticksTillStill 60 = .ok (.iload_n 2, 1) := by decide +kernel
theorem dX0_ticksTillStill_61 : decode cX0_ticksTillStill 61 = .ok (.istore_n 1, 1) := by decide +kernel
theorem dX0_ticksTillStill_62 : decode cX0_ticksTillStill 62 = .ok (.iinc 2 1, 3) := by decide +kernel
theorem dX0_ticksTillStill_65 : decode cX0_ticksTillStill 65 = .ok (.goto (-24), 3) := by decide +kernel
theorem dX0_ticksTillStill_68 : decode cX0_ticksTillStill 68 = .ok (.aload_n 0, 1) := by decide +kernel
theorem dX0_ticksTillStill_69 : decode cX0_ticksTillStill 69 = .ok (.getfield 37, 3) := by decide +kernel
theorem dX0_ticksTillStill_72 : decode cX0_ticksTillStill 72 = .ok (.iconst 0, 1) := by decide +kernel
theorem dX0_ticksTillStill_73 : decode cX0_ticksTillStill 73 = .ok (.aload_n 0, 1) := by decide +kernel
theorem dX0_ticksTillStill_74 : decode cX0_ticksTillStill 74 = .ok (.getfield 18, 3) := by decide +kernel
theorem dX0_ticksTillStill_77 : decode cX0_ticksTillStill 77 = .ok (.iconst 0, 1) := by decide +kernel
theorem dX0_ticksTillStill_78 : decode cX0_ticksTillStill 78 = .ok (.aload_n 0, 1) := by decide +kernel
theorem dX0_ticksTillStill_79 : decode cX0_ticksTillStill 79 = .ok (.getfield 37, 3) := by decide +kernel
theorem dX0_ticksTillStill_82 : decode cX0_ticksTillStill 82 = .ok (.arraylength, 1) := by decide +kernel
theorem dX0_ticksTillStill_83 : decode cX0_ticksTillStill 83 = .ok (.invokestatic 89, 3) := by decide +kernel
theorem dX0_ticksTillStill_86 : decode cX0_ticksTillStill 86 = .ok (.aload_n 0, 1) := by decide +kernel
theorem dX0_ticksTillStill_87 : decode cX0_ticksTillStill 87 = .ok (.getfield 40, 3) := by decide +kernel
theorem dX0_ticksTillStill_90 : decode cX0_ticksTillStill 90 = .ok (.iconst 0, 1) := by decide +kernel
theorem dX0_ticksTillStill_91 : decode cX0_ticksTillStill 91 = .ok (.aload_n 0, 1) := by decide +kernel
theorem dX0_ticksTillStill_92 : decode cX0_ticksTillStill 92 = .ok (.getfield 22, 3) := by decide +kernel
theorem dX0_ticksTillStill_95 : decode cX0_ticksTillStill 95 = .ok (.iconst 0, 1) := by decide +kernel
theorem dX0_ticksTillStill_96 : decode cX0_ticksTillStill 96 = .ok (.aload_n 0, 1) := by decide +kernel
theorem dX0_ticksTillStill_97 : decode cX0_ticksTillStill 97 = .ok (.getfield 40, 3) := by decide +kernel
theorem dX0_ticksTillStill_100 : decode cX0_ticksTillStill 100 = .ok (.arraylength, 1) := by decide +kernel
theorem dX0_ticksTillStill_101 : decode cX0_ticksTillStill 101 = .ok (.invokestatic 89, 3) := by decide +kernel
theorem dX0_ticksTillStill_104 : decode cX0_ticksTillStill 104 = .ok (.iload_n 1, 1) := by decide +kernel
theorem dX0_ticksTillStill_105 : decode cX0_ticksTillStill 105 = .ok (.ireturn, 1) := by decide +kernel
theorem dX0_tick_0 : decode cX0_tick 0 = .ok (.iconst 0, 1) := by decide +kernel
theorem dX0_tick_1 : decode cX0_tick 1 = .ok (.istore_n 1, 1) := by decide +kernel
theorem dX0_tick_2 : decode cX0_tick 2 = .ok (.iload_n 1, 1) := by decide +kernel
theorem dX0_tick_3 : decode cX0_tick 3 = .ok (.bipush 7, 2) := by decide +kernel
theorem dX0_tick_5 : decode cX0_tick 5 = .ok (.if_icmp .ge 19, 3) := by decide +kernel
theorem dX0_tick_8 : decode cX0_tick 8 = .ok (.aload_n 0, 1) := by decide +kernel
theorem dX0_tick_9 : decode cX0_tick 9 = .ok (.iload_n 1, 1) := by decide +kernel
theorem dX0_tick_10 : decode cX0_tick 10 = .ok (.invokevirtual 95, 3) := by decide +kernel
theorem dX0_tick_13 : decode cX0_tick 13 = .ok (.aload_n 0, 1) := by decide +kernel
theorem dX0_tick_14 : decode cX0_tick 14 = .ok (.iload_n 1, 1) := by decide +kernel
theorem dX0_tick_15 : decode cX0_tick 15 = .ok (.invokevirtual 98, 3) := by decide +kernel
theorem dX0_tick_18 : decode cX0_tick 18 = .ok (.iinc 1 1, 3) := by decide +kernel
theorem dX0_tick_21 : decode cX0_tick 21 = .ok (.goto (-19), 3) := by decide +kernel
theorem dX0_tick_24 : decode cX0_tick 24 = .ok (.aload_n 0, 1) := by decide +kernel
theorem dX0_tick_25 : decode cX0_tick 25 = .ok (.invokevirtual 101, 3) := by decide +kernel
theorem dX0_tick_28 : decode cX0_tick 28 = .ok (.ifCond .eq 7, 3) := by decide +kernel
theorem dX0_tick_31 : decode cX0_tick 31 = .ok (.iconst 1, 1) := by decide +kernel
theorem dX0_tick_32 : decode cX0_tick 32 = .ok (.goto 4, 3) := by decide +kernel
theorem dX0_tick_35 : decode cX0_tick 35 = .ok (.iconst 0, 1) := by decide +kernel
theorem dX0_tick_36 : decode cX0_tick 36 = .ok (.istore_n 1, 1) := by decide +kernel
theorem dX0_tick_37 : decode cX0_tick 37 = .ok (.aload_n 0, 1) := by decide +kernel
theorem dX0_tick_38 : decode cX0_tick 38 = .ok (.invokevirtual 105, 3) := by decide +kernel
theorem dX0_tick_41 : decode cX0_tick 41 = .ok (.ifCond .eq 9, 3) := by decide +kernel
theorem dX0_tick_44 : decode cX0_tick 44 = .ok (.iload_n 1, 1) := by decide +kernel
theorem dX0_tick_45 : decode cX0_tick 45 = .ok (.iconst 2, 1) := by decide +kernel
theorem dX0_tick_46 : decode cX0_tick 46 = .ok (.ior, 1) := by decide +kernel
theorem dX0_tick_47 : decode cX0_tick 47 = .ok (.goto 4, 3) := by decide +kernel
theorem dX0_tick_50 : decode cX0_tick 50 = .ok (.iload_n 1, 1) := by decide +kernel
theorem dX0_tick_51 : decode cX0_tick 51 = .ok (.ireturn, 1) := by decide +kernel
theorem dX0_placeSlips_0 : decode cX0_placeSlips 0 = .ok (.iconst 0, 1) := by decide +kernel
theorem dX0_placeSlips_1 : decode cX0_placeSlips 1 = .ok (.istore_n 2, 1) := by decide +kernel
theorem dX0_placeSlips_2 : decode cX0_placeSlips 2 = .ok (.iload_n 2, 1) := by decide +kernel
theorem dX0_placeSlips_3 : decode cX0_placeSlips 3 = .ok (.iconst 4, 1) := by decide +kernel
theorem dX0_placeSlips_4 : decode cX0_placeSlips 4 = .ok (.if_icmp .ge 21, 3) := by decide +kernel
theorem dX0_placeSlips_7 : decode cX0_placeSlips 7 = .ok (.aload_n 0, 1) := by decide +kernel
theorem dX0_placeSlips_8 : decode cX0_placeSlips 8 = .ok (.getfield 31, 3) := by decide +kernel
theorem dX0_placeSlips_11 : decode cX0_placeSlips 11 = .ok (.iload_n 2, 1) := by decide +kernel
theorem dX0_placeSlips_12 : decode cX0_placeSlips 12 = .ok (.aload_n 0, 1) := by decide +kernel
theorem dX0_placeSlips_13 : decode cX0_placeSlips 13 = .ok (.iload_n 1, 1) := by decide +kernel
theorem dX0_placeSlips_14 : decode cX0_placeSlips 14 = .ok (.iload_n 2, 1) := by decide +kernel
theorem dX0_placeSlips_15 : decode cX0_placeSlips 15 = .ok (.invokevirtual 108, 3) := by decide +kernel
theorem dX0_placeSlips_18 : decode cX0_placeSlips 18 = .ok (.iastore, 1) := by decide +kernel
theorem dX0_placeSlips_19 : decode cX0_placeSlips 19 = .ok (.iinc 2 1, 3) := by decide +kernel
theorem dX0_placeSlips_22 : decode cX0_placeSlips 22 = .ok (.goto (-20), 3) := by decide +kernel
theorem dX0_placeSlips_25 : decode cX0_placeSlips 25 = .ok (.iconst 0, 1) := by decide +kernel
theorem dX0_placeSlips_26 : decode cX0_placeSlips 26 = .ok (.istore_n 2, 1) := by decide +kernel
theorem dX0_placeSlips_27 : decode cX0_placeSlips 27 = .ok (.iload_n 2, 1) := by decide +kernel
theorem dX0_placeSlips_28 : decode cX0_placeSlips 28 = .ok (.iconst 2, 1) := by decide +kernel
theorem dX0_placeSlips_29 : decode cX0_placeSlips 29 = .ok (.aload_n 0, 1) := by decide +kernel
theorem dX0_placeSlips_30 : decode cX0_placeSlips 30 = .ok (.getfield 43, 3) := by decide +kernel
theorem dX0_placeSlips_33 : decode cX0_placeSlips 33 = .ok (.getfield 51, 3) := by decide +kernel
theorem dX0_placeSlips_36 : decode cX0_placeSlips 36 = .ok (.imul, 1) := by decide +kernel
theorem dX0_placeSlips_37 : decode cX0_placeSlips 37 = .ok (.if_icmp .ge 27, 3) := by decide +kernel
theorem dX0_placeSlips_40 : decode cX0_placeSlips 40 = .ok (.aload_n 0, 1) := by decide +kernel
theorem dX0_placeSlips_41 : decode cX0_placeSlips 41 = .ok (.getfield 43, 3) := by decide +kernel
theorem dX0_placeSlips_44 : decode cX0_placeSlips 44 = .ok (.getfield 60, 3) := by decide +kernel
theorem dX0_placeSlips_47 : decode cX0_placeSlips 47 = .ok (.iload_n 2, 1) := by decide +kernel
theorem dX0_placeSlips_48 : decode cX0_placeSlips 48 = .ok (.iaload, 1) := by decide +kernel
theorem dX0_placeSlips_49 : decode cX0_placeSlips 49 = .ok (.iload_n 1, 1) := by decide +kernel
theorem dX0_placeSlips_50 : decode cX0_placeSlips 50 = .ok (.if_icmp .ne 8, 3) := by decide +kernel
theorem dX0_placeSlips_53 : decode cX0_placeSlips 53 = .ok (.aload_n 0, 1) := by decide +kernel
theorem dX0_placeSlips_54 : decode cX0_placeSlips 54 = .ok (.iload_n 2, 1) := by decide +kernel
theorem dX0_placeSlips_55 : decode cX0_placeSlips 55 = .ok (.invokevirtual 111, 3) := by decide +kernel
theorem dX0_placeSlips_58 : decode cX0_placeSlips 58 = .ok (.iinc 2 1, 3) := by decide +kernel
theorem dX0_placeSlips_61 : decode cX0_placeSlips 61 = .ok (.goto (-34), 3) := by decide +kernel
theorem dX0_placeSlips_64 : decode cX0_placeSlips 64 = .ok (.return_, 1) := by decide +kernel
theorem dX0_placeOver_0 : decode cX0_placeOver 0 = .ok (.iconst 0, 1) := by decide +kernel
theorem dX0_placeOver_1 : decode cX0_placeOver 1 = .ok (.istore_n 2, 1) := by decide +kernel
theorem dX0_placeOver_2 : decode cX0_placeOver 2 = .ok (.iload_n 2, 1) := by decide +kernel
theorem dX0_placeOver_3 : decode cX0_placeOver 3 = .ok (.iconst 4, 1) := by decide +kernel
theorem dX0_placeOver_4 : decode cX0_placeOver 4 = .ok (.if_icmp .ge 62, 3) := by decide +kernel
theorem dX0_placeOver_7 : decode cX0_placeOver 7 = .ok (.aload_n 0, 1) := by decide +kernel
theorem dX0_placeOver_8 : decode cX0_placeOver 8 = .ok (.getfield 31, 3) := by decide +kernel
theorem dX0_placeOver_11 : decode cX0_placeOver 11 = .ok (.iload_n 2, 1) := by decide +kernel
theorem dX0_placeOver_12 : decode cX0_placeOver 12 = .ok (.iaload, 1) := by decide +kernel
theorem dX0_placeOver_13 : decode cX0_placeOver 13 = .ok (.iconst (-1), 1) := by decide +kernel
theorem dX0_placeOver_14 : decode cX0_placeOver 14 = .ok (.if_icmp .eq 16, 3) := by decide +kernel
theorem dX0_placeOver_17 : decode cX0_placeOver 17 = .ok (.aload_n 0, 1) := by decide +kernel
theorem dX0_placeOver_18 : decode cX0_placeOver 18 = .ok (.iload_n 1, 1) := by decide +kernel
theorem dX0_placeOver_19 : decode cX0_placeOver 19 = .ok (.iload_n 2, 1) := by decide +kernel
theorem dX0_placeOver_20 : decode cX0_placeOver 20 = .ok (.invokevirtual 114, 3) := by decide +kernel
theorem dX0_placeOver_23 : decode cX0_placeOver 23 = .ok (.ifCond .eq 7, 3) := by decide +kernel
theorem dX0_placeOver_26 : decode cX0_placeOver 26 = .ok (.iconst 1, 1) := by decide +kernel
theorem dX0_placeOver_27 : decode cX0_placeOver 27 = .ok (.goto 4, 3) := by decide +kernel
theorem dX0_placeOver_30 : decode cX0_placeOver 30 = .ok (.iconst 0, 1) := by decide +kernel
theorem dX0_placeOver_31 : decode cX0_placeOver 31 = .ok (.istore_n 3, 1) := by decide +kernel
theorem dX0_placeOver_32 : decode cX0_placeOver 32 = .ok (.aload_n 0, 1) := by decide +kernel
theorem dX0_placeOver_33 : decode cX0_placeOver 33 = .ok (.getfield 28, 3) := by decide +kernel
theorem dX0_placeOver_36 : decode cX0_placeOver 36 = .ok (.iload_n 1, 1) := by decide +kernel
theorem dX0_placeOver_37 : decode cX0_placeOver 37 = .ok (.iload_n 2, 1) := by decide +kernel
theorem dX0_placeOver_38 : decode cX0_placeOver 38 = .ok (.invokestatic 56, 3) := by decide +kernel
theorem dX0_placeOver_41 : decode cX0_placeOver 41 = .ok (.iload_n 3, 1) := by decide +kernel
theorem dX0_placeOver_42 : decode cX0_placeOver 42 = .ok (.ifCond .eq 16, 3) := by decide +kernel
theorem dX0_placeOver_45 : decode cX0_placeOver 45 = .ok (.iconst 1, 1) := by decide +kernel
theorem dX0_placeOver_46 : decode cX0_placeOver 46 = .ok (.aload_n 0, 1) := by decide +kernel
theorem dX0_placeOver_47 : decode cX0_placeOver 47 = .ok (.getfield 31, 3) := by decide +kernel
theorem dX0_placeOver_50 : decode cX0_placeOver 50 = .ok (.iload_n 2, 1) := by decide +kernel
theorem dX0_placeOver_51 : decode cX0_placeOver 51 = .ok (.iaload, 1) := by decide +kernel
theorem dX0_placeOver_52 : decode cX0_placeOver 52 = .ok (.invokestatic 117, 3) := by decide +kernel
theorem dX0_placeOver_55 : decode cX0_placeOver 55 = .ok (.goto 4, 3) := by decide +kernel
theorem dX0_placeOver_58 : decode cX0_placeOver 58 = .ok (.iconst 0, 1) := by decide +kernel
theorem dX0_placeOver_59 : decode cX0_placeOver 59 = .ok (.iastore, 1) := by decide +kernel
theorem dX0_placeOver_60 : decode cX0_placeOver 60 = .ok (.iinc 2 1, 3) := by decide +kernel
theorem dX0_placeOver_63 : decode cX0_placeOver 63 = .ok (.goto (-61), 3) := by decide +kernel
theorem dX0_placeOver_66 : decode cX0_placeOver 66 = .ok (.return_, 1) := by decide +kernel
theorem dX0_countToHand_0 : decode cX0_countToHand 0 = .ok (.aload_n 0, 1) := by decide +kernel
theorem dX0_countToHand_1 : decode cX0_countToHand 1 = .ok (.getfield 43, 3) := by decide +kernel
theorem dX0_countToHand_4 : decode cX0_countToHand 4 = .ok (.getfield 120, 3) := by decide +kernel
theorem dX0_countToHand_7 : decode cX0_countToHand 7 = .ok (.iload_n 2, 1) := by decide +kernel
theorem dX0_countToHand_8 : decode cX0_countToHand 8 = .ok (.iaload, 1) := by decide +kernel
theorem dX0_countToHand_9 : decode cX0_countToHand 9 = .ok (.iload_n 1, 1) := by decide +kernel
theorem dX0_countToHand_10 : decode cX0_countToHand 10 = .ok (.if_icmp .ne 5, 3) := by decide +kernel
theorem dX0_countToHand_13 : decode cX0_countToHand 13 = .ok (.iconst 0, 1) := by decide +kernel
theorem dX0_countToHand_14 : decode cX0_countToHand 14 = .ok (.ireturn, 1) := by decide +kernel
theorem dX0_countToHand_15 : decode cX0_countToHand 15 = .ok (.aload_n 0, 1) := by decide +kernel
theorem dX0_countToHand_16 : decode cX0_countToHand 16 = .ok (.getfield 43, 3) := by decide +kernel
theorem dX0_countToHand_19 : decode cX0_countToHand 19 = .ok (.getfield 63, 3) := by decide +kernel
theorem dX0_countToHand_22 : decode cX0_countToHand 22 = .ok (.iload_n 1, 1) := by decide +kernel
theorem dX0_countToHand_23 : decode cX0_countToHand 23 = .ok (.iload_n 2, 1) := by decide +kernel
theorem dX0_countToHand_24 : decode cX0_countToHand 24 = .ok (.invokestatic 66, 3) := by decide +kernel
theorem dX0_countToHand_27 : decode cX0_countToHand 27 = .ok (.iaload, 1) := by decide +kernel
theorem dX0_countToHand_28 : decode cX0_countToHand 28 = .ok (.iconst (-1), 1) := by decide +kernel
theorem dX0_countToHand_29 : decode cX0_countToHand 29 = .ok (.if_icmp .ne 5, 3) := by decide +kernel
theorem dX0_countToHand_32 : decode cX0_countToHand 32 = .ok (.iconst (-1), 1) := by decide +kernel
theorem dX0_countToHand_33 : decode cX0_countToHand 33 = .ok (.ireturn, 1) := by decide +kernel
theorem dX0_countToHand_34 : decode cX0_countToHand 34 = .ok (.aload_n 0, 1) := by decide +kernel
theorem dX0_countToHand_35 : decode cX0_countToHand 35 = .ok (.iload_n 1, 1) := by decide +kernel
theorem dX0_countToHand_36 : decode cX0_countToHand 36 = .ok (.iload_n 2, 1) := by decide +kernel
theorem dX0_countToHand_37 : decode cX0_countToHand 37 = .ok (.invokevirtual 123, 3) := by decide +kernel
theorem dX0_countToHand_40 : decode cX0_countToHand 40 = .ok (.istore_n 3, 1) := by decide +kernel
theorem dX0_countToHand_41 : decode cX0_countToHand 41 = .ok (.iload_n 3, 1) := by decide +kernel
theorem dX0_countToHand_42 : decode cX0_countToHand 42 = .ok (.ifCond .ne 17, 3) := by decide +kernel
theorem dX0_countToHand_45 : decode cX0_countToHand 45 = .ok (.aload_n 0, 1) := by decide +kernel
theorem dX0_countToHand_46 : decode cX0_countToHand 46 = .ok (.getfield 9, 3) := by decide +kernel
theorem dX0_countToHand_49 : decode cX0_countToHand 49 = .ok (.iconst 1, 1) := by decide +kernel
theorem dX0_countToHand_50 : decode cX0_countToHand 50 = .ok (.if_icmp .ne 7, 3) := by decide +kernel
theorem dX0_countToHand_53 : decode cX0_countToHand 53 = .ok (.iconst (-1), 1) := by decide +kernel
theorem dX0_countToHand_54 : decode cX0_countToHand 54 = .ok (.goto 4, 3) := by decide +kernel
theorem dX0_countToHand_57 : decode cX0_countToHand 57 = .ok (.iconst 1, 1) := by decide +kernel
theorem dX0_countToHand_58 : decode cX0_countToHand 58 = .ok (.ireturn, 1) := by decide +kernel
theorem dX0_countToHand_59 : decode cX0_countToHand 59 = .ok (.iload_n 3, 1) := by decide +kernel
theorem dX0_countToHand_60 : decode cX0_countToHand 60 = .ok (.invokestatic 126, 3) := by decide +kernel
theorem dX0_countToHand_63 : decode cX0_countToHand 63 = .ok (.iconst 1, 1) := by decide +kernel
theorem dX0_countToHand_64 : decode cX0_countToHand 64 = .ok (.iadd, 1) := by decide +kernel
theorem dX0_countToHand_65 : decode cX0_countToHand 65 = .ok (.istore 4, 2) := by decide +kernel
theorem dX0_countToHand_67 : decode cX0_countToHand 67 = .ok (.iload 4, 2) := by decide +kernel
theorem dX0_countToHand_69 : decode cX0_countToHand 69 = .ok (.aload_n 0, 1) := by decide +kernel
theorem dX0_countToHand_70 : decode cX0_countToHand 70 = .ok (.getfield 15, 3) := by decide +kernel
theorem dX0_countToHand_73 : decode cX0_countToHand 73 = .ok (.if_icmp .le 7, 3) := by decide +kernel
theorem dX0_countToHand_76 : decode cX0_countToHand 76 = .ok (.iconst (-1), 1) := by decide +kernel
theorem dX0_countToHand_77 : decode cX0_countToHand 77 = .ok (.goto 5, 3) := by decide +kernel
theorem dX0_countToHand_80 : decode cX0_countToHand 80 = .ok (.iload 4, 2) := by decide +kernel
theorem dX0_countToHand_82 : decode cX0_countToHand 82 = .ok (.ireturn, 1) := by decide +kernel
theorem dX0_goesOver_0 : decode cX0_goesOver 0 = .ok (.aload_n 0, 1) := by decide +kernel
theorem dX0_goesOver_1 : decode cX0_goesOver 1 = .ok (.getfield 43, 3) := by decide +kernel
theorem dX0_goesOver_4 : decode cX0_goesOver 4 = .ok (.iload_n 1, 1) := by decide +kernel
theorem dX0_goesOver_5 : decode cX0_goesOver 5 = .ok (.invokevirtual 129, 3) := by decide +kernel
theorem dX0_goesOver_8 : decode cX0_goesOver 8 = .ok (.ifCond .ne 5, 3) := by decide +kernel
theorem dX0_goesOver_11 : decode cX0_goesOver 11 = .ok (.iconst 0, 1) := by decide +kernel
theorem dX0_goesOver_12 : decode cX0_goesOver 12 = .ok (.ireturn, 1) := by decide +kernel
theorem dX0_goesOver_13 : decode cX0_goesOver 13 = .ok (.aload_n 0, 1) := by decide +kernel
theorem dX0_goesOver_14 : decode cX0_goesOver 14 = .ok (.getfield 43, 3) := by decide +kernel
theorem dX0_goesOver_17 : decode cX0_goesOver 17 = .ok (.getfield 60, 3) := by decide +kernel
theorem dX0_goesOver_20 : decode cX0_goesOver 20 = .ok (.iload_n 1, 1) := by decide +kernel
theorem dX0_goesOver_21 : decode cX0_goesOver 21 = .ok (.iconst 1, 1) := by decide +kernel
theorem dX0_goesOver_22 : decode cX0_goesOver 22 = .ok (.ixor, 1) := by decide +kernel
theorem dX0_goesOver_23 : decode cX0_goesOver 23 = .ok (.iaload, 1) := by decide +kernel
theorem dX0_goesOver_24 : decode cX0_goesOver 24 = .ok (.istore_n 3, 1) := by decide +kernel
theorem dX0_goesOver_25 : decode cX0_goesOver 25 = .ok (.aload_n 0, 1) := by decide +kernel
theorem dX0_goesOver_26 : decode cX0_goesOver 26 = .ok (.aload_n 0, 1) := by decide +kernel
theorem dX0_goesOver_27 : decode cX0_goesOver 27 = .ok (.getfield 43, 3) := by decide +kernel
theorem dX0_goesOver_30 : decode cX0_goesOver 30 = .ok (.getfield 60, 3) := by decide +kernel
theorem dX0_goesOver_33 : decode cX0_goesOver 33 = .ok (.iload_n 1, 1) := by decide +kernel
theorem dX0_goesOver_34 : decode cX0_goesOver 34 = .ok (.iaload, 1) := by decide +kernel
theorem dX0_goesOver_35 : decode cX0_goesOver 35 = .ok (.iconst 0, 1) := by decide +kernel
theorem dX0_goesOver_36 : decode cX0_goesOver 36 = .ok (.invokevirtual 69, 3) := by decide +kernel
theorem dX0_goesOver_39 : decode cX0_goesOver 39 = .ok (.ifCond .eq 22, 3) := by decide +kernel
theorem dX0_goesOver_42 : decode cX0_goesOver 42 = .ok (.aload_n 0, 1) := by decide +kernel
theorem dX0_goesOver_43 : decode cX0_goesOver 43 = .ok (.getfield 43, 3) := by decide +kernel
theorem dX0_goesOver_46 : decode cX0_goesOver 46 = .ok (.getfield 63, 3) := by decide +kernel
theorem dX0_goesOver_49 : decode cX0_goesOver 49 = .ok (.iload_n 3, 1) := by decide +kernel
theorem dX0_goesOver_50 : decode cX0_goesOver 50 = .ok (.iload_n 2, 1) := by decide +kernel
theorem dX0_goesOver_51 : decode cX0_goesOver 51 = .ok (.invokestatic 66, 3) := by decide +kernel
theorem dX0_goesOver_54 : decode cX0_goesOver 54 = .ok (.iaload, 1) := by decide +kernel
theorem dX0_goesOver_55 : decode cX0_goesOver 55 = .ok (.iload_n 1, 1) := by decide +kernel
theorem dX0_goesOver_56 : decode cX0_goesOver 56 = .ok (.iconst 1, 1) := by decide +kernel
theorem dX0_goesOver_57 : decode cX0_goesOver 57 = .ok (.ixor, 1) := by decide +kernel
theorem dX0_goesOver_58 : decode cX0_goesOver 58 = .ok (.if_icmp .ne 7, 3) := by decide +kernel
theorem dX0_goesOver_61 : decode cX0_goesOver 61 = .ok (.iconst 1, 1) := by decide +kernel
theorem dX0_goesOver_62 : decode cX0_goesOver 62 = .ok (.goto 4, 3) := by decide +kernel
theorem dX0_goesOver_65 : decode cX0_goesOver 65 = .ok (.iconst 0, 1) := by decide +kernel
theorem dX0_goesOver_66 : decode cX0_goesOver 66 = .ok (.ireturn, 1) := by decide +kernel
theorem dX0_fillRows_0 : decode cX0_fillRows 0 = .ok (.aload_n 0, 1) := by decide +kernel
theorem dX0_fillRows_1 : decode cX0_fillRows 1 = .ok (.iload_n 1, 1) := by decide +kernel
theorem dX0_fillRows_2 : decode cX0_fillRows 2 = .ok (.iconst 2, 1) := by decide +kernel
theorem dX0_fillRows_3 : decode cX0_fillRows 3 = .ok (.invokevirtual 69, 3) := by decide +kernel
theorem dX0_fillRows_6 : decode cX0_fillRows 6 = .ok (.ifCond .ne 19, 3) := by decide +kernel
theorem dX0_fillRows_9 : decode cX0_fillRows 9 = .ok (.aload_n 0, 1) := by decide +kernel
theorem dX0_fillRows_10 : decode cX0_fillRows 10 = .ok (.iload_n 1, 1) := by decide +kernel
theorem dX0_fillRows_11 : decode cX0_fillRows 11 = .ok (.iconst 0, 1) := by decide +kernel
theorem dX0_fillRows_12 : decode cX0_fillRows 12 = .ok (.iconst 2, 1) := by decide +kernel
theorem dX0_fillRows_13 : decode cX0_fillRows 13 = .ok (.aload_n 0, 1) := by decide +kernel
theorem dX0_fillRows_14 : decode cX0_fillRows 14 = .ok (.getfield 43, 3) := by decide +kernel
theorem dX0_fillRows_17 : decode cX0_fillRows 17 = .ok (.getfield 51, 3) := by decide +kernel
theorem dX0_fillRows_20 : decode cX0_fillRows 20 = .ok (.imul, 1) := by decide +kernel
theorem dX0_fillRows_21 : decode cX0_fillRows 21 = .ok (.invokevirtual 133, 3) := by decide +kernel
theorem dX0_fillRows_24 : decode cX0_fillRows 24 = .ok (.return_, 1) := by decide +kernel
theorem dX0_fillRows_25 : decode cX0_fillRows 25 = .ok (.iconst 0, 1) := by decide +kernel
theorem dX0_fillRows_26 : decode cX0_fillRows 26 = .ok (.istore_n 2, 1) := by decide +kernel
theorem dX0_fillRows_27 : decode cX0_fillRows 27 = .ok (.iload_n 2, 1) := by decide +kernel
theorem dX0_fillRows_28 : decode cX0_fillRows 28 = .ok (.iconst 2, 1) := by decide +kernel
theorem dX0_fillRows_29 : decode cX0_fillRows 29 = .ok (.aload_n 0, 1) := by decide +kernel
theorem dX0_fillRows_30 : decode cX0_fillRows 30 = .ok (.getfield 43, 3) := by decide +kernel
theorem dX0_fillRows_33 : decode cX0_fillRows 33 = .ok (.getfield 51, 3) := by decide +kernel
theorem dX0_fillRows_36 : decode cX0_fillRows 36 = .ok (.imul, 1) := by decide +kernel
theorem dX0_fillRows_37 : decode cX0_fillRows 37 = .ok (.if_icmp .ge 31, 3) := by decide +kernel
theorem dX0_fillRows_40 : decode cX0_fillRows 40 = .ok (.aload_n 0, 1) := by decide +kernel
theorem dX0_fillRows_41 : decode cX0_fillRows 41 = .ok (.getfield 43, 3) := by decide +kernel
theorem dX0_fillRows_44 : decode cX0_fillRows 44 = .ok (.getfield 60, 3) := by decide +kernel
theorem dX0_fillRows_47 : decode cX0_fillRows 47 = .ok (.iload_n 2, 1) := by decide +kernel
theorem dX0_fillRows_48 : decode cX0_fillRows 48 = .ok (.iaload, 1) := by decide +kernel
theorem dX0_fillRows_49 : decode cX0_fillRows 49 = .ok (.iload_n 1, 1) := by decide +kernel
theorem dX0_fillRows_50 : decode cX0_fillRows 50 = .ok (.if_icmp .ne 12, 3) := by decide +kernel
theorem dX0_fillRows_53 : decode cX0_fillRows 53 = .ok (.aload_n 0, 1) := by decide +kernel
theorem dX0_fillRows_54 : decode cX0_fillRows 54 = .ok (.iload_n 1, 1) := by decide +kernel
theorem dX0_fillRows_55 : decode cX0_fillRows 55 = .ok (.iload_n 2, 1) := by decide +kernel
theorem dX0_fillRows_56 : decode cX0_fillRows 56 = .ok (.iload_n 2, 1) := by decide +kernel
theorem dX0_fillRows_57 : decode cX0_fillRows 57 = .ok (.iconst 1, 1) := by decide +kernel
theorem dX0_fillRows_58 : decode cX0_fillRows 58 = .ok (.iadd, 1) := by decide +kernel
theorem dX0_fillRows_59 : decode cX0_fillRows 59 = .ok (.invokevirtual 133, 3) := by decide +kernel
theorem dX0_fillRows_62 : decode cX0_fillRows 62 = .ok (.iinc 2 1, 3) := by decide +kernel
theorem dX0_fillRows_65 : decode cX0_fillRows 65 = .ok (.goto (-38), 3) := by decide +kernel
theorem dX0_fillRows_68 : decode cX0_fillRows 68 = .ok (.return_, 1) := by decide +kernel
theorem dX0_fillRow_0 : decode cX0_fillRow 0 = .ok (.iconst 0, 1) := by decide +kernel
theorem dX0_fillRow_1 : decode cX0_fillRow 1 = .ok (.istore 4, 2) := by decide +kernel
theorem dX0_fillRow_3 : decode cX0_fillRow 3 = .ok (.iconst 0, 1) := by decide +kernel
theorem dX0_fillRow_4 : decode cX0_fillRow 4 = .ok (.istore 5, 2) := by decide +kernel
theorem dX0_fillRow_6 : decode cX0_fillRow 6 = .ok (.iload 5, 2) := by decide +kernel
theorem dX0_fillRow_8 : decode cX0_fillRow 8 = .ok (.iconst 4, 1) := by decide +kernel
theorem dX0_fillRow_9 : decode cX0_fillRow 9 = .ok (.if_icmp .ge 40, 3) := by decide +kernel
theorem dX0_fillRow_12 : decode cX0_fillRow 12 = .ok (.aload_n 0, 1) := by decide +kernel
theorem dX0_fillRow_13 : decode cX0_fillRow 13 = .ok (.getfield 34, 3) := by decide +kernel
theorem dX0_fillRow_16 : decode cX0_fillRow 16 = .ok (.iload 5, 2) := by decide +kernel
theorem dX0_fillRow_18 : decode cX0_fillRow 18 = .ok (.aload_n 0, 1) := by decide +kernel
theorem dX0_fillRow_19 : decode cX0_fillRow 19 = .ok (.iload_n 1, 1) := by decide +kernel
theorem dX0_fillRow_20 : decode cX0_fillRow 20 = .ok (.iload 5, 2) := by decide +kernel
theorem dX0_fillRow_22 : decode cX0_fillRow 22 = .ok (.iload_n 2, 1) := by decide +kernel
theorem dX0_fillRow_23 : decode cX0_fillRow 23 = .ok (.iload_n 3, 1) := by decide +kernel
theorem dX0_fillRow_24 : decode cX0_fillRow 24 = .ok (.invokevirtual 137, 3) := by decide +kernel
theorem dX0_fillRow_27 : decode cX0_fillRow 27 = .ok (.iastore, 1) := by decide +kernel
theorem dX0_fillRow_28 : decode cX0_fillRow 28 = .ok (.iload 4, 2) := by decide +kernel
theorem dX0_fillRow_30 : decode cX0_fillRow 30 = .ok (.aload_n 0, 1) := by decide +kernel
theorem dX0_fillRow_31 : decode cX0_fillRow 31 = .ok (.getfield 34, 3) := by decide +kernel
theorem dX0_fillRow_34 : decode cX0_fillRow 34 = .ok (.iload 5, 2) := by decide +kernel
theorem dX0_fillRow_36 : decode cX0_fillRow 36 = .ok (.iaload, 1) := by decide +kernel
theorem dX0_fillRow_37 : decode cX0_fillRow 37 = .ok (.invokestatic 141, 3) := by decide +kernel
theorem dX0_fillRow_40 : decode cX0_fillRow 40 = .ok (.ior, 1) := by decide +kernel
theorem dX0_fillRow_41 : decode cX0_fillRow 41 = .ok (.istore 4, 2) := by decide +kernel
theorem dX0_fillRow_43 : decode cX0_fillRow 43 = .ok (.iinc 5 1, 3) := by decide +kernel
theorem dX0_fillRow_46 : decode cX0_fillRow 46 = .ok (.goto (-40), 3) := by decide +kernel
theorem dX0_fillRow_49 : decode cX0_fillRow 49 = .ok (.iconst 0, 1) := by decide +kernel
theorem dX0_fillRow_50 : decode cX0_fillRow 50 = .ok (.istore 5, 2) := by decide +kernel
theorem dX0_fillRow_52 : decode cX0_fillRow 52 = .ok (.iload 5, 2) := by decide +kernel
theorem dX0_fillRow_54 : decode cX0_fillRow 54 = .ok (.iconst 4, 1) := by decide +kernel
theorem dX0_fillRow_55 : decode cX0_fillRow 55 = .ok (.if_icmp .ge 46, 3) := by decide +kernel
theorem dX0_fillRow_58 : decode cX0_fillRow 58 = .ok (.aload_n 0, 1) := by decide +kernel
theorem dX0_fillRow_59 : decode cX0_fillRow 59 = .ok (.getfield 34, 3) := by decide +kernel
theorem dX0_fillRow_62 : decode cX0_fillRow 62 = .ok (.iload 5, 2) := by decide +kernel
theorem dX0_fillRow_64 : decode cX0_fillRow 64 = .ok (.iaload, 1) := by decide +kernel
theorem dX0_fillRow_65 : decode cX0_fillRow 65 = .ok (.ifCond .ne 30, 3) := by decide +kernel
theorem dX0_fillRow_68 : decode cX0_fillRow 68 = .ok (.aload_n 0, 1) := by decide +kernel
theorem dX0_fillRow_69 : decode cX0_fillRow 69 = .ok (.getfield 34, 3) := by decide +kernel
theorem dX0_fillRow_72 : decode cX0_fillRow 72 = .ok (.iload 5, 2) := by decide +kernel
theorem dX0_fillRow_74 : decode cX0_fillRow 74 = .ok (.iload 4, 2) := by decide +kernel
theorem dX0_fillRow_76 : decode cX0_fillRow 76 = .ok (.invokestatic 144, 3) := by decide +kernel
theorem dX0_fillRow_79 : decode cX0_fillRow 79 = .ok (.iastore, 1) := by decide +kernel
theorem dX0_fillRow_80 : decode cX0_fillRow 80 = .ok (.iload 4, 2) := by decide +kernel
theorem dX0_fillRow_82 : decode cX0_fillRow 82 = .ok (.aload_n 0, 1) := by decide +kernel
theorem dX0_fillRow_83 : decode cX0_fillRow 83 = .ok (.getfield 34, 3) := by decide +kernel
theorem dX0_fillRow_86 : decode cX0_fillRow 86 = .ok (.iload 5, 2) := by decide +kernel
theorem dX0_fillRow_88 : decode cX0_fillRow 88 = .ok (.iaload, 1) := by decide +kernel
theorem dX0_fillRow_89 : decode cX0_fillRow 89 = .ok (.invokestatic 141, 3) := by decide +kernel
theorem dX0_fillRow_92 : decode cX0_fillRow 92 = .ok (.ior, 1) := by decide +kernel
theorem dX0_fillRow_93 : decode cX0_fillRow 93 = .ok (.istore 4, 2) := by decide +kernel
theorem dX0_fillRow_95 : decode cX0_fillRow 95 = .ok (.iinc 5 1, 3) := by decide +kernel
theorem dX0_fillRow_98 : decode cX0_fillRow 98 = .ok (.goto (-46), 3) := by decide +kernel
theorem dX0_fillRow_101 : decode cX0_fillRow 101 = .ok (.iload_n 2, 1) := by decide +kernel
theorem dX0_fillRow_102 : decode cX0_fillRow 102 = .ok (.istore 5, 2) := by decide +kernel
theorem dX0_fillRow_104 : decode cX0_fillRow 104 = .ok (.iload 5, 2) := by decide +kernel
theorem dX0_fillRow_106 : decode cX0_fillRow 106 = .ok (.iload_n 3, 1) := by decide +kernel
theorem dX0_fillRow_107 : decode cX0_fillRow 107 = .ok (.if_icmp .ge 29, 3) := by decide +kernel
theorem dX0_fillRow_110 : decode cX0_fillRow 110 = .ok (.aload_n 0, 1) := by decide +kernel
theorem dX0_fillRow_111 : decode cX0_fillRow 111 = .ok (.getfield 43, 3) := by decide +kernel
theorem dX0_fillRow_114 : decode cX0_fillRow 114 = .ok (.getfield 60, 3) := by decide +kernel
theorem dX0_fillRow_117 : decode cX0_fillRow 117 = .ok (.iload 5, 2) := by decide +kernel
theorem dX0_fillRow_119 : decode cX0_fillRow 119 = .ok (.iaload, 1) := by decide +kernel
theorem dX0_fillRow_120 : decode cX0_fillRow 120 = .ok (.iload_n 1, 1) := by decide +kernel
theorem dX0_fillRow_121 : decode cX0_fillRow 121 = .ok (.if_icmp .ne 9, 3) := by decide +kernel
theorem dX0_fillRow_124 : decode cX0_fillRow 124 = .ok (.aload_n 0, 1) := by decide +kernel
theorem dX0_fillRow_125 : decode cX0_fillRow 125 = .ok (.iload 5, 2) := by decide +kernel
theorem dX0_fillRow_127 : decode cX0_fillRow 127 = .ok (.invokevirtual 147, 3) := by decide +kernel
theorem dX0_fillRow_130 : decode cX0_fillRow 130 = .ok (.iinc 5 1, 3) := by decide +kernel
theorem dX0_fillRow_133 : decode cX0_fillRow 133 = .ok (.goto (-29), 3) := by decide +kernel
theorem dX0_fillRow_136 : decode cX0_fillRow 136 = .ok (.return_, 1) := by decide +kernel
theorem dX0_labelOver_0 : decode cX0_labelOver 0 = .ok (.iconst 0, 1) := by decide +kernel
theorem dX0_labelOver_1 : decode cX0_labelOver 1 = .ok (.istore_n 2, 1) := by decide +kernel
theorem dX0_labelOver_2 : decode cX0_labelOver 2 = .ok (.iload_n 2, 1) := by decide +kernel
theorem dX0_labelOver_3 : decode cX0_labelOver 3 = .ok (.iconst 4, 1) := by decide +kernel
theorem dX0_labelOver_4 : decode cX0_labelOver 4 = .ok (.if_icmp .ge 47, 3) := by decide +kernel
theorem dX0_labelOver_7 : decode cX0_labelOver 7 = .ok (.aload_n 0, 1) := by decide +kernel
theorem dX0_labelOver_8 : decode cX0_labelOver 8 = .ok (.getfield 28, 3) := by decide +kernel
theorem dX0_labelOver_11 : decode cX0_labelOver 11 = .ok (.iload_n 1, 1) := by decide +kernel
theorem dX0_labelOver_12 : decode cX0_labelOver 12 = .ok (.iload_n 2, 1) := by decide +kernel
theorem dX0_labelOver_13 : decode cX0_labelOver 13 = .ok (.invokestatic 56, 3) := by decide +kernel
theorem dX0_labelOver_16 : decode cX0_labelOver 16 = .ok (.iaload, 1) := by decide +kernel
theorem dX0_labelOver_17 : decode cX0_labelOver 17 = .ok (.istore_n 3, 1) := by decide +kernel
theorem dX0_labelOver_18 : decode cX0_labelOver 18 = .ok (.iload_n 3, 1) := by decide +kernel
theorem dX0_labelOver_19 : decode cX0_labelOver 19 = .ok (.ifCond .eq 26, 3) := by decide +kernel
theorem dX0_labelOver_22 : decode cX0_labelOver 22 = .ok (.aload_n 0, 1) := by decide +kernel
theorem dX0_labelOver_23 : decode cX0_labelOver 23 = .ok (.getfield 28, 3) := by decide +kernel
theorem dX0_labelOver_26 : decode cX0_labelOver 26 = .ok (.iload_n 1, 1) := by decide +kernel
theorem dX0_labelOver_27 : decode cX0_labelOver 27 = .ok (.iload_n 2, 1) := by decide +kernel
theorem dX0_labelOver_28 : decode cX0_labelOver 28 = .ok (.invokestatic 56, 3) := by decide +kernel
theorem dX0_labelOver_31 : decode cX0_labelOver 31 = .ok (.aload_n 0, 1) := by decide +kernel
theorem dX0_labelOver_32 : decode cX0_labelOver 32 = .ok (.getfield 34, 3) := by decide +kernel
theorem dX0_labelOver_35 : decode cX0_labelOver 35 = .ok (.iload_n 2, 1) := by decide +kernel
theorem dX0_labelOver_36 : decode cX0_labelOver 36 = .ok (.iaload, 1) := by decide +kernel
theorem dX0_labelOver_37 : decode cX0_labelOver 37 = .ok (.iload_n 3, 1) := by decide +kernel
theorem dX0_labelOver_38 : decode cX0_labelOver 38 = .ok (.invokestatic 126, 3) := by decide +kernel
theorem dX0_labelOver_41 : decode cX0_labelOver 41 = .ok (.invokestatic 117, 3) := by decide +kernel
theorem dX0_labelOver_44 : decode cX0_labelOver 44 = .ok (.iastore, 1) := by decide +kernel
theorem dX0_labelOver_45 : decode cX0_labelOver 45 = .ok (.iinc 2 1, 3) := by decide +kernel
theorem dX0_labelOver_48 : decode cX0_labelOver 48 = .ok (.goto (-46), 3) := by decide +kernel
theorem dX0_labelOver_51 : decode cX0_labelOver 51 = .ok (.return_, 1) := by decide +kernel
theorem dX0_labelAhead_0 : decode cX0_labelAhead 0 = .ok (.iconst 0, 1) := by decide +kernel
theorem dX0_labelAhead_1 : decode cX0_labelAhead 1 = .ok (.istore 5, 2) := by decide +kernel
theorem dX0_labelAhead_3 : decode cX0_labelAhead 3 = .ok (.iconst 0, 1) := by decide +kernel
theorem dX0_labelAhead_4 : decode cX0_labelAhead 4 = .ok (.istore 6, 2) := by decide +kernel
theorem dX0_labelAhead_6 : decode cX0_labelAhead 6 = .ok (.iload_n 3, 1) := by decide +kernel
theorem dX0_labelAhead_7 : decode cX0_labelAhead 7 = .ok (.istore 7, 2) := by decide +kernel
theorem dX0_labelAhead_9 : decode cX0_labelAhead 9 = .ok (.iload 7, 2) := by decide +kernel
theorem dX0_labelAhead_11 : decode cX0_labelAhead 11 = .ok (.iload 4, 2) := by decide +kernel
theorem dX0_labelAhead_13 : decode cX0_labelAhead 13 = .ok (.if_icmp .ge 81, 3) := by decide +kernel
theorem dX0_labelAhead_16 : decode cX0_labelAhead 16 = .ok (.aload_n 0, 1) := by decide +kernel
theorem dX0_labelAhead_17 : decode cX0_labelAhead 17 = .ok (.getfield 43, 3) := by decide +kernel
theorem dX0_labelAhead_20 : decode cX0_labelAhead 20 = .ok (.getfield 60, 3) := by decide +kernel
theorem dX0_labelAhead_23 : decode cX0_labelAhead 23 = .ok (.iload 7, 2) := by decide +kernel
theorem dX0_labelAhead_25 : decode cX0_labelAhead 25 = .ok (.iaload, 1) := by decide +kernel
theorem dX0_labelAhead_26 : decode cX0_labelAhead 26 = .ok (.iload_n 1, 1) := by decide +kernel
theorem dX0_labelAhead_27 : decode cX0_labelAhead 27 = .ok (.if_icmp .ne 61, 3) := by decide +kernel
theorem dX0_labelAhead_30 : decode cX0_labelAhead 30 = .ok (.iload 5, 2) := by decide +kernel
theorem dX0_labelAhead_32 : decode cX0_labelAhead 32 = .ok (.ifCond .ne 17, 3) := by decide +kernel
theorem dX0_labelAhead_35 : decode cX0_labelAhead 35 = .ok (.aload_n 0, 1) := by decide +kernel
theorem dX0_labelAhead_36 : decode cX0_labelAhead 36 = .ok (.getfield 28, 3) := by decide +kernel
theorem dX0_labelAhead_39 : decode cX0_labelAhead 39 = .ok (.iload 7, 2) := by decide +kernel
theorem dX0_labelAhead_41 : decode cX0_labelAhead 41 = .ok (.iload_n 2, 1) := by decide +kernel
theorem dX0_labelAhead_42 : decode cX0_labelAhead 42 = .ok (.invokestatic 56, 3) := by decide +kernel
theorem dX0_labelAhead_45 : decode cX0_labelAhead 45 = .ok (.iaload, 1) := by decide +kernel
theorem dX0_labelAhead_46 : decode cX0_labelAhead 46 = .ok (.ifCond .eq 7, 3) := by decide +kernel
theorem dX0_labelAhead_49 : decode cX0_labelAhead 49 = .ok (.iconst 1, 1) := by decide +kernel
theorem dX0_labelAhead_50 : decode cX0_labelAhead 50 = .ok (.goto 4, 3) := by decide +kernel
theorem dX0_labelAhead_53 : decode cX0_labelAhead 53 = .ok (.iconst 0, 1) := by decide +kernel
theorem dX0_labelAhead_54 : decode cX0_labelAhead 54 = .ok (.istore 5, 2) := by decide +kernel
theorem dX0_labelAhead_56 : decode cX0_labelAhead 56 = .ok (.aload_n 0, 1) := by decide +kernel
theorem dX0_labelAhead_57 : decode cX0_labelAhead 57 = .ok (.getfield 18, 3) := by decide +kernel
theorem dX0_labelAhead_60 : decode cX0_labelAhead 60 = .ok (.iload 7, 2) := by decide +kernel
theorem dX0_labelAhead_62 : decode cX0_labelAhead 62 = .ok (.iload_n 2, 1) := by decide +kernel
theorem dX0_labelAhead_63 : decode cX0_labelAhead 63 = .ok (.invokestatic 56, 3) := by decide +kernel
theorem dX0_labelAhead_66 : decode cX0_labelAhead 66 = .ok (.iaload, 1) := by decide +kernel
theorem dX0_labelAhead_67 : decode cX0_labelAhead 67 = .ok (.invokestatic 73, 3) := by decide +kernel
theorem dX0_labelAhead_70 : decode cX0_labelAhead 70 = .ok (.istore 8, 2) := by decide +kernel
theorem dX0_labelAhead_72 : decode cX0_labelAhead 72 = .ok (.iload 8, 2) := by decide +kernel
theorem dX0_labelAhead_74 : decode cX0_labelAhead 74 = .ok (.bipush 16, 2) := by decide +kernel
theorem dX0_labelAhead_76 : decode cX0_labelAhead 76 = .ok (.if_icmp .lt 8, 3) := by decide +kernel
theorem dX0_labelAhead_79 : decode cX0_labelAhead 79 = .ok (.iload 8, 2) := by decide +kernel
theorem dX0_labelAhead_81 : decode cX0_labelAhead 81 = .ok (.goto 5, 3) := by decide +kernel
theorem dX0_labelAhead_84 : decode cX0_labelAhead 84 = .ok (.iload 6, 2) := by decide +kernel
theorem dX0_labelAhead_86 : decode cX0_labelAhead 86 = .ok (.istore 6, 2) := by decide +kernel
theorem dX0_labelAhead_88 : decode cX0_labelAhead 88 = .ok (.iinc 7 1, 3) := by decide +kernel
theorem dX0_labelAhead_91 : decode cX0_labelAhead 91 = .ok (.goto (-82), 3) := by decide +kernel
theorem dX0_labelAhead_94 : decode cX0_labelAhead 94 = .ok (.iload 5, 2) := by decide +kernel
theorem dX0_labelAhead_96 : decode cX0_labelAhead 96 = .ok (.ifCond .ne 5, 3) := by decide +kernel
theorem dX0_labelAhead_99 : decode cX0_labelAhead 99 = .ok (.iconst (-1), 1) := by decide +kernel
theorem dX0_labelAhead_100 : decode cX0_labelAhead 100 = .ok (.ireturn, 1) := by decide +kernel
theorem dX0_labelAhead_101 : decode cX0_labelAhead 101 = .ok (.aload_n 0, 1) := by decide +kernel
theorem dX0_labelAhead_102 : decode cX0_labelAhead 102 = .ok (.getfield 43, 3) := by decide +kernel
theorem dX0_labelAhead_105 : decode cX0_labelAhead 105 = .ok (.getfield 120, 3) := by decide +kernel
theorem dX0_labelAhead_108 : decode cX0_labelAhead 108 = .ok (.iload_n 2, 1) := by decide +kernel
theorem dX0_labelAhead_109 : decode cX0_labelAhead 109 = .ok (.iaload, 1) := by decide +kernel
theorem dX0_labelAhead_110 : decode cX0_labelAhead 110 = .ok (.iload_n 1, 1) := by decide +kernel
theorem dX0_labelAhead_111 : decode cX0_labelAhead 111 = .ok (.if_icmp .ne 16, 3) := by decide +kernel
theorem dX0_labelAhead_114 : decode cX0_labelAhead 114 = .ok (.aload_n 0, 1) := by decide +kernel
theorem dX0_labelAhead_115 : decode cX0_labelAhead 115 = .ok (.iload_n 1, 1) := by decide +kernel
theorem dX0_labelAhead_116 : decode cX0_labelAhead 116 = .ok (.iconst 3, 1) := by decide +kernel
theorem dX0_labelAhead_117 : decode cX0_labelAhead 117 = .ok (.invokevirtual 69, 3) := by decide +kernel
theorem dX0_labelAhead_120 : decode cX0_labelAhead 120 = .ok (.ifCond .eq 7, 3) := by decide +kernel
theorem dX0_labelAhead_123 : decode cX0_labelAhead 123 = .ok (.iconst 3, 1) := by decide +kernel
theorem dX0_labelAhead_124 : decode cX0_labelAhead 124 = .ok (.goto 5, 3) := by decide +kernel
theorem dX0_labelAhead_127 : decode cX0_labelAhead 127 = .ok (.iload 6, 2) := by decide +kernel
theorem dX0_labelAhead_129 : decode cX0_labelAhead 129 = .ok (.ireturn, 1) := by decide +kernel
theorem dX0_bitOf_0 : decode cX0_bitOf 0 = .ok (.iload_n 0, 1) := by decide +kernel
theorem dX0_bitOf_1 : decode cX0_bitOf 1 = .ok (.bipush 16, 2) := by decide +kernel
theorem dX0_bitOf_3 : decode cX0_bitOf 3 = .ok (.if_icmp .lt 12, 3) := by decide +kernel
theorem dX0_bitOf_6 : decode cX0_bitOf 6 = .ok (.iconst 1, 1) := by decide +kernel
theorem dX0_bitOf_7 : decode cX0_bitOf 7 = .ok (.iload_n 0, 1) := by decide +kernel
theorem dX0_bitOf_8 : decode cX0_bitOf 8 = .ok (.bipush 16, 2) := by decide +kernel
theorem dX0_bitOf_10 : decode cX0_bitOf 10 = .ok (.isub, 1) := by decide +kernel
theorem dX0_bitOf_11 : decode cX0_bitOf 11 = .ok (.ishl, 1) := by decide +kernel
theorem dX0_bitOf_12 : decode cX0_bitOf 12 = .ok (.goto 4, 3) := by decide +kernel
theorem dX0_bitOf_15 : decode cX0_bitOf 15 = .ok (.iconst 0, 1) := by decide +kernel
theorem dX0_bitOf_16 : decode cX0_bitOf 16 = .ok (.ireturn, 1) := by decide +kernel
theorem dX0_leastFree_0 : decode cX0_leastFree 0 = .ok (.bipush 16, 2) := by decide +kernel
theorem dX0_leastFree_2 : decode cX0_leastFree 2 = .ok (.istore_n 1, 1) := by decide +kernel
theorem dX0_leastFree_3 : decode cX0_leastFree 3 = .ok (.iload_n 1, 1) := by decide +kernel
theorem dX0_leastFree_4 : decode cX0_leastFree 4 = .ok (.bipush 20, 2) := by decide +kernel
theorem dX0_leastFree_6 : decode cX0_leastFree 6 = .ok (.if_icmp .ge 20, 3) := by decide +kernel
theorem dX0_leastFree_9 : decode cX0_leastFree 9 = .ok (.iload_n 0, 1) := by decide +kernel
theorem dX0_leastFree_10 : decode cX0_leastFree 10 = .ok (.iload_n 1, 1) := by decide +kernel
theorem dX0_leastFree_11 : decode cX0_leastFree 11 = .ok (.invokestatic 141, 3) := by decide +kernel
theorem dX0_leastFree_14 : decode cX0_leastFree 14 = .ok (.iand, 1) := by decide +kernel
theorem dX0_leastFree_15 : decode cX0_leastFree 15 = .ok (.ifCond .ne 5, 3) := by decide +kernel
theorem dX0_leastFree_18 : decode cX0_leastFree 18 = .ok (.iload_n 1, 1) := by decide +kernel
theorem dX0_leastFree_19 : decode cX0_leastFree 19 = .ok (.ireturn, 1) := by decide +kernel
theorem dX0_leastFree_20 : decode cX0_leastFree 20 = .ok (.iinc 1 1, 3) := by decide +kernel
theorem dX0_leastFree_23 : decode cX0_leastFree 23 = .ok (.goto (-20), 3) := by decide +kernel
theorem dX0_leastFree_26 : decode cX0_leastFree 26 = .ok (.bipush 20, 2) := by decide +kernel
theorem dX0_leastFree_28 : decode cX0_leastFree 28 = .ok (.ireturn, 1) := by decide +kernel
theorem dX0_takeFresh_0 : decode cX0_takeFresh 0 = .ok (.iconst 0, 1) := by decide +kernel
theorem dX0_takeFresh_1 : decode cX0_takeFresh 1 = .ok (.istore_n 1, 1) := by decide +kernel
theorem dX0_takeFresh_2 : decode cX0_takeFresh 2 = .ok (.iconst 0, 1) := by decide +kernel
theorem dX0_takeFresh_3 : decode cX0_takeFresh 3 = .ok (.istore_n 2, 1) := by decide +kernel
theorem dX0_takeFresh_4 : decode cX0_takeFresh 4 = .ok (.iload_n 2, 1) := by decide +kernel
theorem dX0_takeFresh_5 : decode cX0_takeFresh 5 = .ok (.iconst 2, 1) := by decide +kernel
theorem dX0_takeFresh_6 : decode cX0_takeFresh 6 = .ok (.aload_n 0, 1) := by decide +kernel
theorem dX0_takeFresh_7 : decode cX0_takeFresh 7 = .ok (.getfield 43, 3) := by decide +kernel
theorem dX0_takeFresh_10 : decode cX0_takeFresh 10 = .ok (.getfield 51, 3) := by decide +kernel
theorem dX0_takeFresh_13 : decode cX0_takeFresh 13 = .ok (.imul, 1) := by decide +kernel
theorem dX0_takeFresh_14 : decode cX0_takeFresh 14 = .ok (.iconst 0, 1) := by decide +kernel
theorem dX0_takeFresh_15 : decode cX0_takeFresh 15 = .ok (.invokestatic 56, 3) := by decide +kernel
theorem dX0_takeFresh_18 : decode cX0_takeFresh 18 = .ok (.if_icmp .ge 46, 3) := by decide +kernel
theorem dX0_takeFresh_21 : decode cX0_takeFresh 21 = .ok (.iload_n 1, 1) := by decide +kernel
theorem dX0_takeFresh_22 : decode cX0_takeFresh 22 = .ok (.ifCond .ne 18, 3) := by decide +kernel
theorem dX0_takeFresh_25 : decode cX0_takeFresh 25 = .ok (.aload_n 0, 1) := by decide +kernel
theorem dX0_takeFresh_26 : decode cX0_takeFresh 26 = .ok (.getfield 18, 3) := by decide +kernel
theorem dX0_takeFresh_29 : decode cX0_takeFresh 29 = .ok (.iload_n 2, 1) := by decide +kernel
theorem dX0_takeFresh_30 : decode cX0_takeFresh 30 = .ok (.iaload, 1) := by decide +kernel
theorem dX0_takeFresh_31 : decode cX0_takeFresh 31 = .ok (.aload_n 0, 1) := by decide +kernel
theorem dX0_takeFresh_32 : decode cX0_takeFresh 32 = .ok (.getfield 28, 3) := by decide +kernel
theorem dX0_takeFresh_35 : decode cX0_takeFresh 35 = .ok (.iload_n 2, 1) := by decide +kernel
theorem dX0_takeFresh_36 : decode cX0_takeFresh 36 = .ok (.iaload, 1) := by decide +kernel
theorem dX0_takeFresh_37 : decode cX0_takeFresh 37 = .ok (.if_icmp .eq 7, 3) := by decide +kernel
theorem dX0_takeFresh_40 : decode cX0_takeFresh 40 = .ok (.iconst 1, 1) := by decide +kernel
theorem dX0_takeFresh_41 : decode cX0_takeFresh 41 = .ok (.goto 4, 3) := by decide +kernel
theorem dX0_takeFresh_44 : decode cX0_takeFresh 44 = .ok (.iconst 0, 1) := by decide +kernel
theorem dX0_takeFresh_45 : decode cX0_takeFresh 45 = .ok (.istore_n 1, 1) := by decide +kernel
theorem dX0_takeFresh_46 : decode cX0_takeFresh 46 = .ok (.aload_n 0, 1) := by decide +kernel
theorem dX0_takeFresh_47 : decode cX0_takeFresh 47 = .ok (.getfield 18, 3) := by decide +kernel
theorem dX0_takeFresh_50 : decode cX0_takeFresh 50 = .ok (.iload_n 2, 1) := by decide +kernel
theorem dX0_takeFresh_51 : decode cX0_takeFresh 51 = .ok (.aload_n 0, 1) := by decide +kernel
theorem dX0_takeFresh_52 : decode cX0_takeFresh 52 = .ok (.getfield 28, 3) := by decide +kernel
theorem dX0_takeFresh_55 : decode cX0_takeFresh 55 = .ok (.iload_n 2, 1) := by decide +kernel
theorem dX0_takeFresh_56 : decode cX0_takeFresh 56 = .ok (.iaload, 1) := by decide +kernel
theorem dX0_takeFresh_57 : decode cX0_takeFresh 57 = .ok (.iastore, 1) := by decide +kernel
theorem dX0_takeFresh_58 : decode cX0_takeFresh 58 = .ok (.iinc 2 1, 3) := by decide +kernel
theorem dX0_takeFresh_61 : decode cX0_takeFresh 61 = .ok (.goto (-57), 3) := by decide +kernel
theorem dX0_takeFresh_64 : decode cX0_takeFresh 64 = .ok (.iload_n 1, 1) := by decide +kernel
theorem dX0_takeFresh_65 : decode cX0_takeFresh 65 = .ok (.ireturn, 1) := by decide +kernel
theorem dX0_keepAll_0 : decode cX0_keepAll 0 = .ok (.iconst 0, 1) := by decide +kernel
theorem dX0_keepAll_1 : decode cX0_keepAll 1 = .ok (.istore_n 1, 1) := by decide +kernel
theorem dX0_keepAll_2 : decode cX0_keepAll 2 = .ok (.iconst 0, 1) := by decide +kernel
theorem dX0_keepAll_3 : decode cX0_keepAll 3 = .ok (.istore_n 2, 1) := by decide +kernel
theorem dX0_keepAll_4 : decode cX0_keepAll 4 = .ok (.iload_n 2, 1) := by decide +kernel
theorem dX0_keepAll_5 : decode cX0_keepAll 5 = .ok (.iconst 2, 1) := by decide +kernel
theorem dX0_keepAll_6 : decode cX0_keepAll 6 = .ok (.aload_n 0, 1) := by decide +kernel
theorem dX0_keepAll_7 : decode cX0_keepAll 7 = .ok (.getfield 43, 3) := by decide +kernel
theorem dX0_keepAll_10 : decode cX0_keepAll 10 = .ok (.getfield 51, 3) := by decide +kernel
theorem dX0_keepAll_13 : decode cX0_keepAll 13 = .ok (.imul, 1) := by decide +kernel
theorem dX0_keepAll_14 : decode cX0_keepAll 14 = .ok (.if_icmp .ge 67, 3) := by decide +kernel
theorem dX0_keepAll_17 : decode cX0_keepAll 17 = .ok (.iconst 0, 1) := by decide +kernel
theorem dX0_keepAll_18 : decode cX0_keepAll 18 = .ok (.istore_n 3, 1) := by decide +kernel
theorem dX0_keepAll_19 : decode cX0_keepAll 19 = .ok (.iload_n 3, 1) := by decide +kernel
theorem dX0_keepAll_20 : decode cX0_keepAll 20 = .ok (.iconst 4, 1) := by decide +kernel
theorem dX0_keepAll_21 : decode cX0_keepAll 21 = .ok (.if_icmp .ge 54, 3) := by decide +kernel
theorem dX0_keepAll_24 : decode cX0_keepAll 24 = .ok (.aload_n 0, 1) := by decide +kernel
theorem dX0_keepAll_25 : decode cX0_keepAll 25 = .ok (.iload_n 2, 1) := by decide +kernel
theorem dX0_keepAll_26 : decode cX0_keepAll 26 = .ok (.iload_n 3, 1) := by decide +kernel
theorem dX0_keepAll_27 : decode cX0_keepAll 27 = .ok (.invokevirtual 150, 3) := by decide +kernel
theorem dX0_keepAll_30 : decode cX0_keepAll 30 = .ok (.istore 4, 2) := by decide +kernel
theorem dX0_keepAll_32 : decode cX0_keepAll 32 = .ok (.iload_n 1, 1) := by decide +kernel
theorem dX0_keepAll_33 : decode cX0_keepAll 33 = .ok (.ifCond .ne 18, 3) := by decide +kernel
theorem dX0_keepAll_36 : decode cX0_keepAll 36 = .ok (.aload_n 0, 1) := by decide +kernel
theorem dX0_keepAll_37 : decode cX0_keepAll 37 = .ok (.getfield 22, 3) := by decide +kernel
theorem dX0_keepAll_40 : decode cX0_keepAll 40 = .ok (.iload_n 2, 1) := by decide +kernel
theorem dX0_keepAll_41 : decode cX0_keepAll 41 = .ok (.iload_n 3, 1) := by decide +kernel
theorem dX0_keepAll_42 : decode cX0_keepAll 42 = .ok (.invokestatic 56, 3) := by decide +kernel
theorem dX0_keepAll_45 : decode cX0_keepAll 45 = .ok (.iaload, 1) := by decide +kernel
theorem dX0_keepAll_46 : decode cX0_keepAll 46 = .ok (.iload 4, 2) := by decide +kernel
theorem dX0_keepAll_48 : decode cX0_keepAll 48 = .ok (.if_icmp .eq 7, 3) := by decide +kernel
theorem dX0_keepAll_51 : decode cX0_keepAll 51 = .ok (.iconst 1, 1) := by decide +kernel
theorem dX0_keepAll_52 : decode cX0_keepAll 52 = .ok (.goto 4, 3) := by decide +kernel
theorem dX0_keepAll_55 : decode cX0_keepAll 55 = .ok (.iconst 0, 1) := by decide +kernel
theorem dX0_keepAll_56 : decode cX0_keepAll 56 = .ok (.istore_n 1, 1) := by decide +kernel
theorem dX0_keepAll_57 : decode cX0_keepAll 57 = .ok (.aload_n 0, 1) := by decide +kernel
theorem dX0_keepAll_58 : decode cX0_keepAll 58 = .ok (.getfield 22, 3) := by decide +kernel
theorem dX0_keepAll_61 : decode cX0_keepAll 61 = .ok (.iload_n 2, 1) := by decide +kernel
theorem dX0_keepAll_62 : decode cX0_keepAll 62 = .ok (.iload_n 3, 1) := by decide +kernel
theorem dX0_keepAll_63 : decode cX0_keepAll 63 = .ok (.invokestatic 56, 3) := by decide +kernel
theorem dX0_keepAll_66 : decode cX0_keepAll 66 = .ok (.iload 4, 2) := by decide +kernel
theorem dX0_keepAll_68 : decode cX0_keepAll 68 = .ok (.iastore, 1) := by decide +kernel
theorem dX0_keepAll_69 : decode cX0_keepAll 69 = .ok (.iinc 3 1, 3) := by decide +kernel
theorem dX0_keepAll_72 : decode cX0_keepAll 72 = .ok (.goto (-53), 3) := by decide +kernel
theorem dX0_keepAll_75 : decode cX0_keepAll 75 = .ok (.iinc 2 1, 3) := by decide +kernel
theorem dX0_keepAll_78 : decode cX0_keepAll 78 = .ok (.goto (-74), 3) := by decide +kernel
theorem dX0_keepAll_81 : decode cX0_keepAll 81 = .ok (.iload_n 1, 1) := by decide +kernel
theorem dX0_keepAll_82 : decode cX0_keepAll 82 = .ok (.ireturn, 1) := by decide +kernel
theorem dX0_slipToKeep_0 : decode cX0_slipToKeep 0 = .ok (.aload_n 0, 1) := by decide +kernel
theorem dX0_slipToKeep_1 : decode cX0_slipToKeep 1 = .ok (.getfield 43, 3) := by decide +kernel
theorem dX0_slipToKeep_4 : decode cX0_slipToKeep 4 = .ok (.getfield 60, 3) := by decide +kernel
theorem dX0_slipToKeep_7 : decode cX0_slipToKeep 7 = .ok (.iload_n 1, 1) := by decide +kernel
theorem dX0_slipToKeep_8 : decode cX0_slipToKeep 8 = .ok (.iaload, 1) := by decide +kernel
theorem dX0_slipToKeep_9 : decode cX0_slipToKeep 9 = .ok (.istore_n 3, 1) := by decide +kernel
theorem dX0_slipToKeep_10 : decode cX0_slipToKeep 10 = .ok (.aload_n 0, 1) := by decide +kernel
theorem dX0_slipToKeep_11 : decode cX0_slipToKeep 11 = .ok (.iload_n 3, 1) := by decide +kernel
theorem dX0_slipToKeep_12 : decode cX0_slipToKeep 12 = .ok (.iconst 1, 1) := by decide +kernel
theorem dX0_slipToKeep_13 : decode cX0_slipToKeep 13 = .ok (.invokevirtual 69, 3) := by decide +kernel
theorem dX0_slipToKeep_16 : decode cX0_slipToKeep 16 = .ok (.ifCond .eq 22, 3) := by decide +kernel
theorem dX0_slipToKeep_19 : decode cX0_slipToKeep 19 = .ok (.aload_n 0, 1) := by decide +kernel
theorem dX0_slipToKeep_20 : decode cX0_slipToKeep 20 = .ok (.getfield 43, 3) := by decide +kernel
theorem dX0_slipToKeep_23 : decode cX0_slipToKeep 23 = .ok (.getfield 63, 3) := by decide +kernel
theorem dX0_slipToKeep_26 : decode cX0_slipToKeep 26 = .ok (.iload_n 3, 1) := by decide +kernel
theorem dX0_slipToKeep_27 : decode cX0_slipToKeep 27 = .ok (.iload_n 2, 1) := by decide +kernel
theorem dX0_slipToKeep_28 : decode cX0_slipToKeep 28 = .ok (.invokestatic 66, 3) := by decide +kernel
theorem dX0_slipToKeep_31 : decode cX0_slipToKeep 31 = .ok (.iaload, 1) := by decide +kernel
theorem dX0_slipToKeep_32 : decode cX0_slipToKeep 32 = .ok (.iload_n 1, 1) := by decide +kernel
theorem dX0_slipToKeep_33 : decode cX0_slipToKeep 33 = .ok (.if_icmp .eq 5, 3) := by decide +kernel
theorem dX0_slipToKeep_36 : decode cX0_slipToKeep 36 = .ok (.iconst 0, 1) := by decide +kernel
theorem dX0_slipToKeep_37 : decode cX0_slipToKeep 37 = .ok (.ireturn, 1) := by decide +kernel
theorem dX0_slipToKeep_38 : decode cX0_slipToKeep 38 = .ok (.aload_n 0, 1) := by decide +kernel
theorem dX0_slipToKeep_39 : decode cX0_slipToKeep 39 = .ok (.getfield 18, 3) := by decide +kernel
theorem dX0_slipToKeep_42 : decode cX0_slipToKeep 42 = .ok (.iload_n 1, 1) := by decide +kernel
theorem dX0_slipToKeep_43 : decode cX0_slipToKeep 43 = .ok (.iconst 1, 1) := by decide +kernel
theorem dX0_slipToKeep_44 : decode cX0_slipToKeep 44 = .ok (.ixor, 1) := by decide +kernel
theorem dX0_slipToKeep_45 : decode cX0_slipToKeep 45 = .ok (.iload_n 2, 1) := by decide +kernel
theorem dX0_slipToKeep_46 : decode cX0_slipToKeep 46 = .ok (.invokestatic 56, 3) := by decide +kernel
theorem dX0_slipToKeep_49 : decode cX0_slipToKeep 49 = .ok (.iaload, 1) := by decide +kernel
theorem dX0_slipToKeep_50 : decode cX0_slipToKeep 50 = .ok (.ireturn, 1) := by decide +kernel
theorem dX1_init_0 : decode cX1_init 0 = .ok (.aload_n 0, 1) := by decide +kernel
theorem dX1_init_1 : decode cX1_init 1 = .ok (.invokespecial 3, 3) := by decide +kernel
theorem dX1_init_4 : decode cX1_init 4 = .ok (.aload_n 0, 1) := by decide +kernel
theorem dX1_init_5 : decode cX1_init 5 = .ok (.bipush 24, 2) := by decide +kernel
theorem dX1_init_7 : decode cX1_init 7 = .ok (.newarray .int, 2) := by decide +kernel
theorem dX1_init_9 : decode cX1_init 9 = .ok (.putfield 9, 3) := by decide +kernel
theorem dX1_init_12 : decode cX1_init 12 = .ok (.aload_n 0, 1) := by decide +kernel
theorem dX1_init_13 : decode cX1_init 13 = .ok (.bipush 12, 2) := by decide +kernel
theorem dX1_init_15 : decode cX1_init 15 = .ok (.newarray .int, 2) := by decide +kernel
theorem dX1_init_17 : decode cX1_init 17 = .ok (.putfield 15, 3) := by decide +kernel
theorem dX1_init_20 : decode cX1_init 20 = .ok (.aload_n 0, 1) := by decide +kernel
theorem dX1_init_21 : decode cX1_init 21 = .ok (.bipush 12, 2) := by decide +kernel
theorem dX1_init_23 : decode cX1_init 23 = .ok (.newarray .int, 2) := by decide +kernel
theorem dX1_init_25 : decode cX1_init 25 = .ok (.putfield 18, 3) := by decide +kernel
theorem dX1_init_28 : decode cX1_init 28 = .ok (.aload_n 0, 1) := by decide +kernel
theorem dX1_init_29 : decode cX1_init 29 = .ok (.iconst 4, 1) := by decide +kernel
theorem dX1_init_30 : decode cX1_init 30 = .ok (.newarray .int, 2) := by decide +kernel
theorem dX1_init_32 : decode cX1_init 32 = .ok (.putfield 21, 3) := by decide +kernel
theorem dX1_init_35 : decode cX1_init 35 = .ok (.aload_n 0, 1) := by decide +kernel
theorem dX1_init_36 : decode cX1_init 36 = .ok (.bipush 28, 2) := by decide +kernel
theorem dX1_init_38 : decode cX1_init 38 = .ok (.newarray .int, 2) := by decide +kernel
theorem dX1_init_40 : decode cX1_init 40 = .ok (.putfield 24, 3) := by decide +kernel
theorem dX1_init_43 : decode cX1_init 43 = .ok (.aload_n 0, 1) := by decide +kernel
theorem dX1_init_44 : decode cX1_init 44 = .ok (.bipush 28, 2) := by decide +kernel
theorem dX1_init_46 : decode cX1_init 46 = .ok (.newarray .int, 2) := by decide +kernel
theorem dX1_init_48 : decode cX1_init 48 = .ok (.putfield 27, 3) := by decide +kernel
theorem dX1_init_51 : decode cX1_init 51 = .ok (.iconst 0, 1) := by decide +kernel
theorem dX1_init_52 : decode cX1_init 52 = .ok (.istore_n 1, 1) := by decide +kernel
theorem dX1_init_53 : decode cX1_init 53 = .ok (.iload_n 1, 1) := by decide +kernel
theorem dX1_init_54 : decode cX1_init 54 = .ok (.iconst 4, 1) := by decide +kernel
theorem dX1_init_55 : decode cX1_init 55 = .ok (.if_icmp .ge 17, 3) := by decide +kernel
theorem dX1_init_58 : decode cX1_init 58 = .ok (.aload_n 0, 1) := by decide +kernel
theorem dX1_init_59 : decode cX1_init 59 = .ok (.getfield 21, 3) := by decide +kernel
theorem dX1_init_62 : decode cX1_init 62 = .ok (.iload_n 1, 1) := by decide +kernel
theorem dX1_init_63 : decode cX1_init 63 = .ok (.bipush (-9), 2) := by decide +kernel
theorem dX1_init_65 : decode cX1_init 65 = .ok (.iastore, 1) := by decide +kernel
theorem dX1_init_66 : decode cX1_init 66 = .ok (.iinc 1 1, 3) := by decide +kernel
theorem dX1_init_69 : decode cX1_init 69 = .ok (.goto (-16), 3) := by decide +kernel
theorem dX1_init_72 : decode cX1_init 72 = .ok (.iconst 0, 1) := by decide +kernel
theorem dX1_init_73 : decode cX1_init 73 = .ok (.istore_n 1, 1) := by decide +kernel
theorem dX1_init_74 : decode cX1_init 74 = .ok (.iload_n 1, 1) := by decide +kernel
theorem dX1_init_75 : decode cX1_init 75 = .ok (.bipush 28, 2) := by decide +kernel
theorem dX1_init_77 : decode cX1_init 77 = .ok (.if_icmp .ge 24, 3) := by decide +kernel
theorem dX1_init_80 : decode cX1_init 80 = .ok (.aload_n 0, 1) := by decide +kernel
theorem dX1_init_81 : decode cX1_init 81 = .ok (.getfield 24, 3) := by decide +kernel
theorem dX1_init_84 : decode cX1_init 84 = .ok (.iload_n 1, 1) := by decide +kernel
theorem dX1_init_85 : decode cX1_init 85 = .ok (.bipush (-9), 2) := by decide +kernel
theorem dX1_init_87 : decode cX1_init 87 = .ok (.iastore, 1) := by decide +kernel
theorem dX1_init_88 : decode cX1_init 88 = .ok (.aload_n 0, 1) := by decide +kernel
theorem dX1_init_89 : decode cX1_init 89 = .ok (.getfield 27, 3) := by decide +kernel
theorem dX1_init_92 : decode cX1_init 92 = .ok (.iload_n 1, 1) := by decide +kernel
theorem dX1_init_93 : decode cX1_init 93 = .ok (.iconst (-1), 1) := by decide +kernel
theorem dX1_init_94 : decode cX1_init 94 = .ok (.iastore, 1) := by decide +kernel
theorem dX1_init_95 : decode cX1_init 95 = .ok (.iinc 1 1, 3) := by decide +kernel
theorem dX1_init_98 : decode cX1_init 98 = .ok (.goto (-24), 3) := by decide +kernel
theorem dX1_init_101 : decode cX1_init 101 = .ok (.return_, 1) := by decide +kernel
theorem dX1_isLink_0 : decode cX1_isLink 0 = .ok (.iload_n 1, 1) := by decide +kernel
theorem dX1_isLink_1 : decode cX1_isLink 1 = .ok (.ifCond .lt 15, 3) := by decide +kernel
theorem dX1_isLink_4 : decode cX1_isLink 4 = .ok (.iload_n 1, 1) := by decide +kernel
theorem dX1_isLink_5 : decode cX1_isLink 5 = .ok (.aload_n 0, 1) := by decide +kernel
theorem dX1_isLink_6 : decode cX1_isLink 6 = .ok (.getfield 30, 3) := by decide +kernel
theorem dX1_isLink_9 : decode cX1_isLink 9 = .ok (.if_icmp .ge 7, 3) := by decide +kernel
theorem dX1_isLink_12 : decode cX1_isLink 12 = .ok (.iconst 1, 1) := by decide +kernel
theorem dX1_isLink_13 : decode cX1_isLink 13 = .ok (.goto 4, 3) := by decide +kernel
theorem dX1_isLink_16 : decode cX1_isLink 16 = .ok (.iconst 0, 1) := by decide +kernel
theorem dX1_isLink_17 : decode cX1_isLink 17 = .ok (.ireturn, 1) := by decide +kernel
theorem dX1_joined_0 : decode cX1_joined 0 = .ok (.iconst 0, 1) := by decide +kernel
theorem dX1_joined_1 : decode cX1_joined 1 = .ok (.istore_n 3, 1) := by decide +kernel
theorem dX1_joined_2 : decode cX1_joined 2 = .ok (.iload_n 3, 1) := by decide +kernel
theorem dX1_joined_3 : decode cX1_joined 3 = .ok (.aload_n 0, 1) := by decide +kernel
theorem dX1_joined_4 : decode cX1_joined 4 = .ok (.getfield 30, 3) := by decide +kernel
theorem dX1_joined_7 : decode cX1_joined 7 = .ok (.if_icmp .ge 31, 3) := by decide +kernel
theorem dX1_joined_10 : decode cX1_joined 10 = .ok (.aload_n 0, 1) := by decide +kernel
theorem dX1_joined_11 : decode cX1_joined 11 = .ok (.iload_n 3, 1) := by decide +kernel
theorem dX1_joined_12 : decode cX1_joined 12 = .ok (.iload_n 1, 1) := by decide +kernel
theorem dX1_joined_13 : decode cX1_joined 13 = .ok (.invokevirtual 34, 3) := by decide +kernel
theorem dX1_joined_16 : decode cX1_joined 16 = .ok (.iconst (-1), 1) := by decide +kernel
theorem dX1_joined_17 : decode cX1_joined 17 = .ok (.if_icmp .eq 15, 3) := by decide +kernel
theorem dX1_joined_20 : decode cX1_joined 20 = .ok (.aload_n 0, 1) := by decide +kernel
theorem dX1_joined_21 : decode cX1_joined 21 = .ok (.iload_n 3, 1) := by decide +kernel
theorem dX1_joined_22 : decode cX1_joined 22 = .ok (.iload_n 2, 1) := by decide +kernel
theorem dX1_joined_23 : decode cX1_joined 23 = .ok (.invokevirtual 34, 3) := by decide +kernel
theorem dX1_joined_26 : decode cX1_joined 26 = .ok (.iconst (-1), 1) := by decide +kernel
theorem dX1_joined_27 : decode cX1_joined 27 = .ok (.if_icmp .eq 5, 3) := by decide +kernel
theorem dX1_joined_30 : decode cX1_joined 30 = .ok (.iconst 1, 1) := by decide +kernel
theorem dX1_joined_31 : decode cX1_joined 31 = .ok (.ireturn, 1) := by decide +kernel
theorem dX1_joined_32 : decode cX1_joined 32 = .ok (.iinc 3 1, 3) := by decide +kernel
theorem dX1_joined_35 : decode cX1_joined 35 = .ok (.goto (-33), 3) := by decide +kernel
theorem dX1_joined_38 : decode cX1_joined 38 = .ok (.iconst 0, 1) := by decide +kernel
theorem dX1_joined_39 : decode cX1_joined 39 = .ok (.ireturn, 1) := by decide +kernel
theorem dX1_sideAt_0 : decode cX1_sideAt 0 = .ok (.aload_n 0, 1) := by decide +kernel
theorem dX1_sideAt_1 : decode cX1_sideAt 1 = .ok (.getfield 9, 3) := by decide +kernel
theorem dX1_sideAt_4 : decode cX1_sideAt 4 = .ok (.iconst 2, 1) := by decide +kernel
theorem dX1_sideAt_5 : decode cX1_sideAt 5 = .ok (.iload_n 1, 1) := by decide +kernel
theorem dX1_sideAt_6 : decode cX1_sideAt 6 = .ok (.imul, 1) := by decide +kernel
theorem dX1_sideAt_7 : decode cX1_sideAt 7 = .ok (.iaload, 1) := by decide +kernel
theorem dX1_sideAt_8 : decode cX1_sideAt 8 = .ok (.iload_n 2, 1) := by decide +kernel
theorem dX1_sideAt_9 : decode cX1_sideAt 9 = .ok (.if_icmp .ne 7, 3) := by decide +kernel
theorem dX1_sideAt_12 : decode cX1_sideAt 12 = .ok (.iconst 2, 1) := by decide +kernel
theorem dX1_sideAt_13 : decode cX1_sideAt 13 = .ok (.iload_n 1, 1) := by decide +kernel
theorem dX1_sideAt_14 : decode cX1_sideAt 14 = .ok (.imul, 1) := by decide +kernel
theorem dX1_sideAt_15 : decode cX1_sideAt 15 = .ok (.ireturn, 1) := by decide +kernel
theorem dX1_sideAt_16 : decode cX1_sideAt 16 = .ok (.aload_n 0, 1) := by decide +kernel
theorem dX1_sideAt_17 : decode cX1_sideAt 17 = .ok (.getfield 9, 3) := by decide +kernel
theorem dX1_sideAt_20 : decode cX1_sideAt 20 = .ok (.iconst 2, 1) := by decide +kernel
theorem dX1_sideAt_21 : decode cX1_sideAt 21 = .ok (.iload_n 1, 1) := by decide +kernel
theorem dX1_sideAt_22 : decode cX1_sideAt 22 = .ok (.imul, 1) := by decide +kernel
theorem dX1_sideAt_23 : decode cX1_sideAt 23 = .ok (.iconst 1, 1) := by decide +kernel
theorem dX1_sideAt_24 : decode cX1_sideAt 24 = .ok (.iadd, 1) := by decide +kernel
theorem dX1_sideAt_25 : decode cX1_sideAt 25 = .ok (.iaload, 1) := by decide +kernel
theorem dX1_sideAt_26 : decode cX1_sideAt 26 = .ok (.iload_n 2, 1) := by decide +kernel
theorem dX1_sideAt_27 : decode cX1_sideAt 27 = .ok (.if_icmp .ne 11, 3) := by decide +kernel
theorem dX1_sideAt_30 : decode cX1_sideAt 30 = .ok (.iconst 2, 1) := by decide +kernel
theorem dX1_sideAt_31 : decode cX1_sideAt 31 = .ok (.iload_n 1, 1) := by decide +kernel
theorem dX1_sideAt_32 : decode cX1_sideAt 32 = .ok (.imul, 1) := by decide +kernel
theorem dX1_sideAt_33 : decode cX1_sideAt 33 = .ok (.iconst 1, 1) := by decide +kernel
theorem dX1_sideAt_34 : decode cX1_sideAt 34 = .ok (.iadd, 1) := by decide +kernel
theorem dX1_sideAt_35 : decode cX1_sideAt 35 = .ok (.goto 4, 3) := by decide +kernel
theorem dX1_sideAt_38 : decode cX1_sideAt 38 = .ok (.iconst (-1), 1) := by decide +kernel
theorem dX1_sideAt_39 : decode cX1_sideAt 39 = .ok (.ireturn, 1) := by decide +kernel
theorem dX1_addLink_0 : decode cX1_addLink 0 = .ok (.aload_n 0, 1) := by decide +kernel
theorem dX1_addLink_1 : decode cX1_addLink 1 = .ok (.getfield 30, 3) := by decide +kernel
theorem dX1_addLink_4 : decode cX1_addLink 4 = .ok (.istore 4, 2) := by decide +kernel
theorem dX1_addLink_6 : decode cX1_addLink 6 = .ok (.aload_n 0, 1) := by decide +kernel
theorem dX1_addLink_7 : decode cX1_addLink 7 = .ok (.dup, 1) := by decide +kernel
theorem dX1_addLink_8 : decode cX1_addLink 8 = .ok (.getfield 30, 3) := by decide +kernel
theorem dX1_addLink_11 : decode cX1_addLink 11 = .ok (.iconst 1, 1) := by decide +kernel
theorem dX1_addLink_12 : decode cX1_addLink 12 = .ok (.iadd, 1) := by decide +kernel
theorem dX1_addLink_13 : decode cX1_addLink 13 = .ok (.putfield 30, 3) := by decide +kernel
theorem dX1_addLink_16 : decode cX1_addLink 16 = .ok (.aload_n 0, 1) := by decide +kernel
theorem dX1_addLink_17 : decode cX1_addLink 17 = .ok (.getfield 9, 3) := by decide +kernel
theorem dX1_addLink_20 : decode cX1_addLink 20 = .ok (.iconst 2, 1) := by decide +kernel
theorem dX1_addLink_21 : decode cX1_addLink 21 = .ok (.iload 4, 2) := by decide +kernel
theorem dX1_addLink_23 : decode cX1_addLink 23 = .ok (.imul, 1) := by decide +kernel
theorem dX1_addLink_24 : decode cX1_addLink 24 = .ok (.iload_n 1, 1) := by decide +kernel
theorem dX1_addLink_25 : decode cX1_addLink 25 = .ok (.iastore, 1) := by decide +kernel
theorem dX1_addLink_26 : decode cX1_addLink 26 = .ok (.aload_n 0, 1) := by decide +kernel
theorem dX1_addLink_27 : decode cX1_addLink 27 = .ok (.getfield 9, 3) := by decide +kernel
theorem dX1_addLink_30 : decode cX1_addLink 30 = .ok (.iconst 2, 1) := by decide +kernel
theorem dX1_addLink_31 : decode cX1_addLink 31 = .ok (.iload 4, 2) := by decide +kernel
theorem dX1_addLink_33 : decode cX1_addLink 33 = .ok (.imul, 1) := by decide +kernel
theorem dX1_addLink_34 : decode cX1_addLink 34 = .ok (.iconst 1, 1) := by decide +kernel
theorem dX1_addLink_35 : decode cX1_addLink 35 = .ok (.iadd, 1) := by decide +kernel
theorem dX1_addLink_36 : decode cX1_addLink 36 = .ok (.iload_n 2, 1) := by decide +kernel
theorem dX1_addLink_37 : decode cX1_addLink 37 = .ok (.iastore, 1) := by decide +kernel
theorem dX1_addLink_38 : decode cX1_addLink 38 = .ok (.aload_n 0, 1) := by decide +kernel
theorem dX1_addLink_39 : decode cX1_addLink 39 = .ok (.getfield 15, 3) := by decide +kernel
theorem dX1_addLink_42 : decode cX1_addLink 42 = .ok (.iload 4, 2) := by decide +kernel
theorem dX1_addLink_44 : decode cX1_addLink 44 = .ok (.iload_n 3, 1) := by decide +kernel
theorem dX1_addLink_45 : decode cX1_addLink 45 = .ok (.iastore, 1) := by decide +kernel
theorem dX1_addLink_46 : decode cX1_addLink 46 = .ok (.aload_n 0, 1) := by decide +kernel
theorem dX1_addLink_47 : decode cX1_addLink 47 = .ok (.getfield 18, 3) := by decide +kernel
theorem dX1_addLink_50 : decode cX1_addLink 50 = .ok (.iload 4, 2) := by decide +kernel
theorem dX1_addLink_52 : decode cX1_addLink 52 = .ok (.iconst 1, 1) := by decide +kernel
theorem dX1_addLink_53 : decode cX1_addLink 53 = .ok (.iastore, 1) := by decide +kernel
theorem dX1_addLink_54 : decode cX1_addLink 54 = .ok (.aload_n 0, 1) := by decide +kernel
theorem dX1_addLink_55 : decode cX1_addLink 55 = .ok (.invokevirtual 38, 3) := by decide +kernel
theorem dX1_addLink_58 : decode cX1_addLink 58 = .ok (.iload 4, 2) := by decide +kernel
theorem dX1_addLink_60 : decode cX1_addLink 60 = .ok (.ireturn, 1) := by decide +kernel
theorem dX1_setCost_0 : decode cX1_setCost 0 = .ok (.aload_n 0, 1) := by decide +kernel
theorem dX1_setCost_1 : decode cX1_setCost 1 = .ok (.getfield 15, 3) := by decide +kernel
theorem dX1_setCost_4 : decode cX1_setCost 4 = .ok (.iload_n 1, 1) := by decide +kernel
theorem dX1_setCost_5 : decode cX1_setCost 5 = .ok (.iload_n 2, 1) := by decide +kernel
theorem dX1_setCost_6 : decode cX1_setCost 6 = .ok (.iastore, 1) := by decide +kernel
theorem dX1_setCost_7 : decode cX1_setCost 7 = .ok (.aload_n 0, 1) := by decide +kernel
theorem dX1_setCost_8 : decode cX1_setCost 8 = .ok (.invokevirtual 38, 3) := by decide +kernel
theorem dX1_setCost_11 : decode cX1_setCost 11 = .ok (.return_, 1) := by decide +kernel
theorem dX1_setUp_0 : decode cX1_setUp 0 = .ok (.aload_n 0, 1) := by decide +kernel
theorem dX1_setUp_1 : decode cX1_setUp 1 = .ok (.getfield 18, 3) := by decide +kernel
theorem dX1_setUp_4 : decode cX1_setUp 4 = .ok (.iload_n 1, 1) := by decide +kernel
theorem dX1_setUp_5 : decode cX1_setUp 5 = .ok (.iload_n 2, 1) := by decide +kernel
theorem dX1_setUp_6 : decode cX1_setUp 6 = .ok (.iastore, 1) := by decide +kernel
theorem dX1_setUp_7 : decode cX1_setUp 7 = .ok (.aload_n 0, 1) := by decide +kernel
theorem dX1_setUp_8 : decode cX1_setUp 8 = .ok (.invokevirtual 38, 3) := by decide +kernel
theorem dX1_setUp_11 : decode cX1_setUp 11 = .ok (.return_, 1) := by decide +kernel
theorem dX1_setEnd_0 : decode cX1_setEnd 0 = .ok (.aload_n 0, 1) := by decide +kernel
theorem dX1_setEnd_1 : decode cX1_setEnd 1 = .ok (.getfield 21, 3) := by decide +kernel
theorem dX1_setEnd_4 : decode cX1_setEnd 4 = .ok (.iload_n 1, 1) := by decide +kernel
theorem dX1_setEnd_5 : decode cX1_setEnd 5 = .ok (.iload_n 2, 1) := by decide +kernel
theorem dX1_setEnd_6 : decode cX1_setEnd 6 = .ok (.iastore, 1) := by decide +kernel
theorem dX1_setEnd_7 : decode cX1_setEnd 7 = .ok (.aload_n 0, 1) := by decide +kernel
theorem dX1_setEnd_8 : decode cX1_setEnd 8 = .ok (.iload_n 1, 1) := by decide +kernel
theorem dX1_setEnd_9 : decode cX1_setEnd 9 = .ok (.invokevirtual 41, 3) := by decide +kernel
theorem dX1_setEnd_12 : decode cX1_setEnd 12 = .ok (.return_, 1) := by decide +kernel
theorem dX1_nextBox_0 : decode cX1_nextBox 0 = .ok (.aload_n 0, 1) := by decide +kernel
theorem dX1_nextBox_1 : decode cX1_nextBox 1 = .ok (.getfield 27, 3) := by decide +kernel
theorem dX1_nextBox_4 : decode cX1_nextBox 4 = .ok (.iload_n 1, 1) := by decide +kernel
theorem dX1_nextBox_5 : decode cX1_nextBox 5 = .ok (.iload_n 2, 1) := by decide +kernel
theorem dX1_nextBox_6 : decode cX1_nextBox 6 = .ok (.invokestatic 45, 3) := by decide +kernel
theorem dX1_nextBox_9 : decode cX1_nextBox 9 = .ok (.iaload, 1) := by decide +kernel
theorem dX1_nextBox_10 : decode cX1_nextBox 10 = .ok (.istore_n 3, 1) := by decide +kernel
theorem dX1_nextBox_11 : decode cX1_nextBox 11 = .ok (.iload_n 3, 1) := by decide +kernel
theorem dX1_nextBox_12 : decode cX1_nextBox 12 = .ok (.iconst (-1), 1) := by decide +kernel
theorem dX1_nextBox_13 : decode cX1_nextBox 13 = .ok (.if_icmp .ne 8, 3) := by decide +kernel
theorem dX1_nextBox_16 : decode cX1_nextBox 16 = .ok (.bipush (-9), 2) := by decide +kernel
theorem dX1_nextBox_18 : decode cX1_nextBox 18 = .ok (.goto 11, 3) := by decide +kernel
theorem dX1_nextBox_21 : decode cX1_nextBox 21 = .ok (.aload_n 0, 1) := by decide +kernel
theorem dX1_nextBox_22 : decode cX1_nextBox 22 = .ok (.getfield 9, 3) := by decide +kernel
theorem dX1_nextBox_25 : decode cX1_nextBox 25 = .ok (.iload_n 3, 1) := by decide +kernel
theorem dX1_nextBox_26 : decode cX1_nextBox 26 = .ok (.iconst 1, 1) := by decide +kernel
theorem dX1_nextBox_27 : decode cX1_nextBox 27 = .ok (.ixor, 1) := by decide +kernel
theorem dX1_nextBox_28 : decode cX1_nextBox 28 = .ok (.iaload, 1) := by decide +kernel
theorem dX1_nextBox_29 : decode cX1_nextBox 29 = .ok (.ireturn, 1) := by decide +kernel
theorem dX1_isUpSide_0 : decode cX1_isUpSide 0 = .ok (.aload_n 0, 1) := by decide +kernel
theorem dX1_isUpSide_1 : decode cX1_isUpSide 1 = .ok (.getfield 18, 3) := by decide +kernel
theorem dX1_isUpSide_4 : decode cX1_isUpSide 4 = .ok (.iload_n 1, 1) := by decide +kernel
theorem dX1_isUpSide_5 : decode cX1_isUpSide 5 = .ok (.iconst 1, 1) := by decide +kernel
theorem dX1_isUpSide_6 : decode cX1_isUpSide 6 = .ok (.ishr, 1) := by decide +kernel
theorem dX1_isUpSide_7 : decode cX1_isUpSide 7 = .ok (.iaload, 1) := by decide +kernel
theorem dX1_isUpSide_8 : decode cX1_isUpSide 8 = .ok (.iconst 1, 1) := by decide +kernel
theorem dX1_isUpSide_9 : decode cX1_isUpSide 9 = .ok (.if_icmp .ne 7, 3) := by decide +kernel
theorem dX1_isUpSide_12 : decode cX1_isUpSide 12 = .ok (.iconst 1, 1) := by decide +kernel
theorem dX1_isUpSide_13 : decode cX1_isUpSide 13 = .ok (.goto 4, 3) := by decide +kernel
theorem dX1_isUpSide_16 : decode cX1_isUpSide 16 = .ok (.iconst 0, 1) := by decide +kernel
theorem dX1_isUpSide_17 : decode cX1_isUpSide 17 = .ok (.ireturn, 1) := by decide +kernel
theorem dX1_linksUp_0 : decode cX1_linksUp 0 = .ok (.iconst 0, 1) := by decide +kernel
theorem dX1_linksUp_1 : decode cX1_linksUp 1 = .ok (.istore_n 1, 1) := by decide +kernel
theorem dX1_linksUp_2 : decode cX1_linksUp 2 = .ok (.iconst 0, 1) := by decide +kernel
theorem dX1_linksUp_3 : decode cX1_linksUp 3 = .ok (.istore_n 2, 1) := by decide +kernel
theorem dX1_linksUp_4 : decode cX1_linksUp 4 = .ok (.iload_n 2, 1) := by decide +kernel
theorem dX1_linksUp_5 : decode cX1_linksUp 5 = .ok (.aload_n 0, 1) := by decide +kernel
theorem dX1_linksUp_6 : decode cX1_linksUp 6 = .ok (.getfield 30, 3) := by decide +kernel
theorem dX1_linksUp_9 : decode cX1_linksUp 9 = .ok (.if_icmp .ge 18, 3) := by decide +kernel
theorem dX1_linksUp_12 : decode cX1_linksUp 12 = .ok (.iload_n 1, 1) := by decide +kernel
theorem dX1_linksUp_13 : decode cX1_linksUp 13 = .ok (.aload_n 0, 1) := by decide +kernel
theorem dX1_linksUp_14 : decode cX1_linksUp 14 = .ok (.getfield 18, 3) := by decide +kernel
theorem dX1_linksUp_17 : decode cX1_linksUp 17 = .ok (.iload_n 2, 1) := by decide +kernel
theorem dX1_linksUp_18 : decode cX1_linksUp 18 = .ok (.iaload, 1) := by decide +kernel
theorem dX1_linksUp_19 : decode cX1_linksUp 19 = .ok (.iadd, 1) := by decide +kernel
theorem dX1_linksUp_20 : decode cX1_linksUp 20 = .ok (.istore_n 1, 1) := by decide +kernel
theorem dX1_linksUp_21 : decode cX1_linksUp 21 = .ok (.iinc 2 1, 3) := by decide +kernel
theorem dX1_linksUp_24 : decode cX1_linksUp 24 = .ok (.goto (-20), 3) := by decide +kernel
theorem dX1_linksUp_27 : decode cX1_linksUp 27 = .ok (.iload_n 1, 1) := by decide +kernel
theorem dX1_linksUp_28 : decode cX1_linksUp 28 = .ok (.ireturn, 1) := by decide +kernel
theorem dX1_classesWithEnd_0 : decode cX1_classesWithEnd 0 = .ok (.iconst 0, 1) := by decide +kernel
theorem dX1_classesWithEnd_1 : decode cX1_classesWithEnd 1 = .ok (.istore_n 1, 1) := by decide +kernel
theorem dX1_classesWithEnd_2 : decode cX1_classesWithEnd 2 = .ok (.iconst 0, 1) := by decide +kernel
theorem dX1_classesWithEnd_3 : decode cX1_classesWithEnd 3 = .ok (.istore_n 2, 1) := by decide +kernel
theorem dX1_classesWithEnd_4 : decode cX1_classesWithEnd 4 = .ok (.iload_n 2, 1) := by decide +kernel
theorem dX1_classesWithEnd_5 : decode cX1_classesWithEnd 5 = .ok (.iconst 4, 1) := by decide +kernel
theorem dX1_classesWithEnd_6 : decode cX1_classesWithEnd 6 = .ok (.if_icmp .ge 23, 3) := by decide +kernel
theorem dX1_classesWithEnd_9 : decode cX1_classesWithEnd 9 = .ok (.aload_n 0, 1) := by decide +kernel
theorem dX1_classesWithEnd_10 : decode cX1_classesWithEnd 10 = .ok (.getfield 21, 3) := by decide +kernel
theorem dX1_classesWithEnd_13 : decode cX1_classesWithEnd 13 = .ok (.iload_n 2, 1) := by decide +kernel
theorem dX1_classesWithEnd_14 : decode cX1_classesWithEnd 14 = .ok (.iaload, 1) := by decide +kernel
theorem dX1_classesWithEnd_15 : decode cX1_classesWithEnd 15 = .ok (.bipush (-9), 2) := by decide +kernel
theorem dX1_classesWithEnd_17 : decode cX1_classesWithEnd 17 = .ok (.if_icmp .eq 6, 3) := by decide +kernel
theorem dX1_classesWithEnd_20 : decode cX1_classesWithEnd 20 = .ok (.iinc 1 1, 3) := by decide +kernel
theorem dX1_classesWithEnd_23 : decode cX1_classesWithEnd 23 = .ok (.iinc 2 1, 3) := by decide +kernel
theorem dX1_classesWithEnd_26 : decode cX1_classesWithEnd 26 = .ok (.goto (-22), 3) := by decide +kernel
theorem dX1_classesWithEnd_29 : decode cX1_classesWithEnd 29 = .ok (.iload_n 1, 1) := by decide +kernel
theorem dX1_classesWithEnd_30 : decode cX1_classesWithEnd 30 = .ok (.ireturn, 1) := by decide +kernel
theorem dX1_findWays_0 : decode cX1_findWays 0 = .ok (.iconst 0, 1) := by decide +kernel
theorem dX1_findWays_1 : decode cX1_findWays 1 = .ok (.istore_n 1, 1) := by decide +kernel
theorem dX1_findWays_2 : decode cX1_findWays 2 = .ok (.iload_n 1, 1) := by decide +kernel
theorem dX1_findWays_3 : decode cX1_findWays 3 = .ok (.iconst 4, 1) := by decide +kernel
theorem dX1_findWays_4 : decode cX1_findWays 4 = .ok (.if_icmp .ge 14, 3) := by decide +kernel
theorem dX1_findWays_7 : decode cX1_findWays 7 = .ok (.aload_n 0, 1) := by decide +kernel
theorem dX1_findWays_8 : decode cX1_findWays 8 = .ok (.iload_n 1, 1) := by decide +kernel
theorem dX1_findWays_9 : decode cX1_findWays 9 = .ok (.invokevirtual 41, 3) := by decide +kernel
theorem dX1_findWays_12 : decode cX1_findWays 12 = .ok (.iinc 1 1, 3) := by decide +kernel
theorem dX1_findWays_15 : decode cX1_findWays 15 = .ok (.goto (-13), 3) := by decide +kernel
theorem dX1_findWays_18 : decode cX1_findWays 18 = .ok (.return_, 1) := by decide +kernel
theorem dX1_findWaysOf_0 : decode cX1_findWaysOf 0 = .ok (.iconst 0, 1) := by decide +kernel
theorem dX1_findWaysOf_1 : decode cX1_findWaysOf 1 = .ok (.istore_n 2, 1) := by decide +kernel
theorem dX1_findWaysOf_2 : decode cX1_findWaysOf 2 = .ok (.iload_n 2, 1) := by decide +kernel
theorem dX1_findWaysOf_3 : decode cX1_findWaysOf 3 = .ok (.bipush 7, 2) := by decide +kernel
theorem dX1_findWaysOf_5 : decode cX1_findWaysOf 5 = .ok (.if_icmp .ge 35, 3) := by decide +kernel
theorem dX1_findWaysOf_8 : decode cX1_findWaysOf 8 = .ok (.aload_n 0, 1) := by decide +kernel
theorem dX1_findWaysOf_9 : decode cX1_findWaysOf 9 = .ok (.getfield 24, 3) := by decide +kernel
theorem dX1_findWaysOf_12 : decode cX1_findWaysOf 12 = .ok (.iload_n 2, 1) := by decide +kernel
theorem dX1_findWaysOf_13 : decode cX1_findWaysOf 13 = .ok (.iload_n 1, 1) := by decide +kernel
theorem dX1_findWaysOf_14 : decode cX1_findWaysOf 14 = .ok (.invokestatic 45, 3) := by decide +kernel
theorem dX1_findWaysOf_17 : decode cX1_findWaysOf 17 = .ok (.iload_n 2, 1) := by decide +kernel
theorem dX1_findWaysOf_18 : decode cX1_findWaysOf 18 = .ok (.aload_n 0, 1) := by decide +kernel
theorem dX1_findWaysOf_19 : decode cX1_findWaysOf 19 = .ok (.getfield 21, 3) := by decide +kernel
theorem dX1_findWaysOf_22 : decode cX1_findWaysOf 22 = .ok (.iload_n 1, 1) := by decide +kernel
theorem dX1_findWaysOf_23 : decode cX1_findWaysOf 23 = .ok (.iaload, 1) := by decide +kernel
theorem dX1_findWaysOf_24 : decode cX1_findWaysOf 24 = .ok (.if_icmp .ne 7, 3) := by decide +kernel
theorem dX1_findWaysOf_27 : decode cX1_findWaysOf 27 = .ok (.iconst 0, 1) := by decide +kernel
theorem dX1_findWaysOf_28 : decode cX1_findWaysOf 28 = .ok (.goto 5, 3) := by decide +kernel
theorem dX1_findWaysOf_31 : decode cX1_findWaysOf 31 = .ok (.bipush (-9), 2) := by decide +kernel
theorem dX1_findWaysOf_33 : decode cX1_findWaysOf 33 = .ok (.iastore, 1) := by decide +kernel
theorem dX1_findWaysOf_34 : decode cX1_findWaysOf 34 = .ok (.iinc 2 1, 3) := by decide +kernel
theorem dX1_findWaysOf_37 : decode cX1_findWaysOf 37 = .ok (.goto (-35), 3) := by decide +kernel
theorem dX1_findWaysOf_40 : decode cX1_findWaysOf 40 = .ok (.aload_n 0, 1) := by decide +kernel
theorem dX1_findWaysOf_41 : decode cX1_findWaysOf 41 = .ok (.getfield 21, 3) := by decide +kernel
theorem dX1_findWaysOf_44 : decode cX1_findWaysOf 44 = .ok (.iload_n 1, 1) := by decide +kernel
theorem dX1_findWaysOf_45 : decode cX1_findWaysOf 45 = .ok (.iaload, 1) := by decide +kernel
theorem dX1_findWaysOf_46 : decode cX1_findWaysOf 46 = .ok (.bipush (-9), 2) := by decide +kernel
theorem dX1_findWaysOf_48 : decode cX1_findWaysOf 48 = .ok (.if_icmp .eq 7, 3) := by decide +kernel
theorem dX1_findWaysOf_51 : decode cX1_findWaysOf 51 = .ok (.iconst 1, 1) := by decide +kernel
theorem dX1_findWaysOf_52 : decode cX1_findWaysOf 52 = .ok (.goto 4, 3) := by decide +kernel
theorem dX1_findWaysOf_55 : decode cX1_findWaysOf 55 = .ok (.iconst 0, 1) := by decide +kernel
theorem dX1_findWaysOf_56 : decode cX1_findWaysOf 56 = .ok (.istore_n 2, 1) := by decide +kernel
theorem dX1_findWaysOf_57 : decode cX1_findWaysOf 57 = .ok (.iconst 0, 1) := by decide +kernel
theorem dX1_findWaysOf_58 : decode cX1_findWaysOf 58 = .ok (.istore_n 3, 1) := by decide +kernel
theorem dX1_findWaysOf_59 : decode cX1_findWaysOf 59 = .ok (.iload_n 2, 1) := by decide +kernel
theorem dX1_findWaysOf_60 : decode cX1_findWaysOf 60 = .ok (.ifCond .eq 21, 3) := by decide +kernel
theorem dX1_findWaysOf_63 : decode cX1_findWaysOf 63 = .ok (.iload_n 3, 1) := by decide +kernel
theorem dX1_findWaysOf_64 : decode cX1_findWaysOf 64 = .ok (.bipush 7, 2) := by decide +kernel
theorem dX1_findWaysOf_66 : decode cX1_findWaysOf 66 = .ok (.if_icmp .ge 15, 3) := by decide +kernel
theorem dX1_findWaysOf_69 : decode cX1_findWaysOf 69 = .ok (.aload_n 0, 1) := by decide +kernel
theorem dX1_findWaysOf_70 : decode cX1_findWaysOf 70 = .ok (.iload_n 1, 1) := by decide +kernel
theorem dX1_findWaysOf_71 : decode cX1_findWaysOf 71 = .ok (.invokevirtual 48, 3) := by decide +kernel
theorem dX1_findWaysOf_74 : decode cX1_findWaysOf 74 = .ok (.istore_n 2, 1) := by decide +kernel
theorem dX1_findWaysOf_75 : decode cX1_findWaysOf 75 = .ok (.iinc 3 1, 3) := by decide +kernel
theorem dX1_findWaysOf_78 : decode cX1_findWaysOf 78 = .ok (.goto (-19), 3) := by decide +kernel
theorem dX1_findWaysOf_81 : decode cX1_findWaysOf 81 = .ok (.iconst 0, 1) := by decide +kernel
theorem dX1_findWaysOf_82 : decode cX1_findWaysOf 82 = .ok (.istore_n 3, 1) := by decide +kernel
theorem dX1_findWaysOf_83 : decode cX1_findWaysOf 83 = .ok (.iload_n 3, 1) := by decide +kernel
theorem dX1_findWaysOf_84 : decode cX1_findWaysOf 84 = .ok (.bipush 7, 2) := by decide +kernel
theorem dX1_findWaysOf_86 : decode cX1_findWaysOf 86 = .ok (.if_icmp .ge 25, 3) := by decide +kernel
theorem dX1_findWaysOf_89 : decode cX1_findWaysOf 89 = .ok (.aload_n 0, 1) := by decide +kernel
theorem dX1_findWaysOf_90 : decode cX1_findWaysOf 90 = .ok (.getfield 27, 3) := by decide +kernel
theorem dX1_findWaysOf_93 : decode cX1_findWaysOf 93 = .ok (.iload_n 3, 1) := by decide +kernel
theorem dX1_findWaysOf_94 : decode cX1_findWaysOf 94 = .ok (.iload_n 1, 1) := by decide +kernel
theorem dX1_findWaysOf_95 : decode cX1_findWaysOf 95 = .ok (.invokestatic 45, 3) := by decide +kernel
theorem dX1_findWaysOf_98 : decode cX1_findWaysOf 98 = .ok (.aload_n 0, 1) := by decide +kernel
theorem dX1_findWaysOf_99 : decode cX1_findWaysOf 99 = .ok (.iload_n 3, 1) := by decide +kernel
theorem dX1_findWaysOf_100 : decode cX1_findWaysOf 100 = .ok (.iload_n 1, 1) := by decide +kernel
theorem dX1_findWaysOf_101 : decode cX1_findWaysOf 101 = .ok (.invokevirtual 52, 3) := by decide +kernel
theorem dX1_findWaysOf_104 : decode cX1_findWaysOf 104 = .ok (.iastore, 1) := by decide +kernel
theorem dX1_findWaysOf_105 : decode cX1_findWaysOf 105 = .ok (.iinc 3 1, 3) := by decide +kernel
theorem dX1_findWaysOf_108 : decode cX1_findWaysOf 108 = .ok (.goto (-25), 3) := by decide +kernel
theorem dX1_findWaysOf_111 : decode cX1_findWaysOf 111 = .ok (.return_, 1) := by decide +kernel
theorem dX1_shorten_0 : decode cX1_shorten 0 = .ok (.iconst 0, 1) := by decide +kernel
theorem dX1_shorten_1 : decode cX1_shorten 1 = .ok (.istore_n 2, 1) := by decide +kernel
theorem dX1_shorten_2 : decode cX1_shorten 2 = .ok (.iconst 0, 1) := by decide +kernel
theorem dX1_shorten_3 : decode cX1_shorten 3 = .ok (.istore_n 3, 1) := by decide +kernel
theorem dX1_shorten_4 : decode cX1_shorten 4 = .ok (.iload_n 3, 1) := by decide +kernel
theorem dX1_shorten_5 : decode cX1_shorten 5 = .ok (.iconst 2, 1) := by decide +kernel
theorem dX1_shorten_6 : decode cX1_shorten 6 = .ok (.aload_n 0, 1) := by decide +kernel
theorem dX1_shorten_7 : decode cX1_shorten 7 = .ok (.getfield 30, 3) := by decide +kernel
theorem dX1_shorten_10 : decode cX1_shorten 10 = .ok (.imul, 1) := by decide +kernel
theorem dX1_shorten_11 : decode cX1_shorten 11 = .ok (.if_icmp .ge 103, 3) := by decide +kernel
theorem dX1_shorten_14 : decode cX1_shorten 14 = .ok (.aload_n 0, 1) := by decide +kernel
theorem dX1_shorten_15 : decode cX1_shorten 15 = .ok (.getfield 24, 3) := by decide +kernel
theorem dX1_shorten_18 : decode cX1_shorten 18 = .ok (.aload_n 0, 1) := by decide +kernel
theorem dX1_shorten_19 : decode cX1_shorten 19 = .ok (.getfield 9, 3) := by decide +kernel
theorem dX1_shorten_22 : decode cX1_shorten 22 = .ok (.iload_n 3, 1) := by decide +kernel
theorem dX1_shorten_23 : decode cX1_shorten 23 = .ok (.iconst 1, 1) := by decide +kernel
theorem dX1_shorten_24 : decode cX1_shorten 24 = .ok (.ixor, 1) := by decide +kernel
theorem dX1_shorten_25 : decode cX1_shorten 25 = .ok (.iaload, 1) := by decide +kernel
theorem dX1_shorten_26 : decode cX1_shorten 26 = .ok (.iload_n 1, 1) := by decide +kernel
theorem dX1_shorten_27 : decode cX1_shorten 27 = .ok (.invokestatic 45, 3) := by decide +kernel
theorem dX1_shorten_30 : decode cX1_shorten 30 = .ok (.iaload, 1) := by decide +kernel
theorem dX1_shorten_31 : decode cX1_shorten 31 = .ok (.istore 4, 2) := by decide +kernel
theorem dX1_shorten_33 : decode cX1_shorten 33 = .ok (.aload_n 0, 1) := by decide +kernel
theorem dX1_shorten_34 : decode cX1_shorten 34 = .ok (.iload_n 3, 1) := by decide +kernel
theorem dX1_shorten_35 : decode cX1_shorten 35 = .ok (.invokevirtual 55, 3) := by decide +kernel
theorem dX1_shorten_38 : decode cX1_shorten 38 = .ok (.ifCond .eq 70, 3) := by decide +kernel
theorem dX1_shorten_41 : decode cX1_shorten 41 = .ok (.iload 4, 2) := by decide +kernel
theorem dX1_shorten_43 : decode cX1_shorten 43 = .ok (.bipush (-9), 2) := by decide +kernel
theorem dX1_shorten_45 : decode cX1_shorten 45 = .ok (.if_icmp .eq 63, 3) := by decide +kernel
theorem dX1_shorten_48 : decode cX1_shorten 48 = .ok (.aload_n 0, 1) := by decide +kernel
theorem dX1_shorten_49 : decode cX1_shorten 49 = .ok (.getfield 9, 3) := by decide +kernel
theorem dX1_shorten_52 : decode cX1_shorten 52 = .ok (.iload_n 3, 1) := by decide +kernel
theorem dX1_shorten_53 : decode cX1_shorten 53 = .ok (.iaload, 1) := by decide +kernel
theorem dX1_shorten_54 : decode cX1_shorten 54 = .ok (.iload_n 1, 1) := by decide +kernel
theorem dX1_shorten_55 : decode cX1_shorten 55 = .ok (.invokestatic 45, 3) := by decide +kernel
theorem dX1_shorten_58 : decode cX1_shorten 58 = .ok (.istore 5, 2) := by decide +kernel
theorem dX1_shorten_60 : decode cX1_shorten 60 = .ok (.iload 4, 2) := by decide +kernel
theorem dX1_shorten_62 : decode cX1_shorten 62 = .ok (.aload_n 0, 1) := by decide +kernel
theorem dX1_shorten_63 : decode cX1_shorten 63 = .ok (.getfield 15, 3) := by decide +kernel
theorem dX1_shorten_66 : decode cX1_shorten 66 = .ok (.iload_n 3, 1) := by decide +kernel
theorem dX1_shorten_67 : decode cX1_shorten 67 = .ok (.iconst 1, 1) := by decide +kernel
theorem dX1_shorten_68 : decode cX1_shorten 68 = .ok (.ishr, 1) := by decide +kernel
theorem dX1_shorten_69 : decode cX1_shorten 69 = .ok (.iaload, 1) := by decide +kernel
theorem dX1_shorten_70 : decode cX1_shorten 70 = .ok (.iadd, 1) := by decide +kernel
theorem dX1_shorten_71 : decode cX1_shorten 71 = .ok (.istore 6, 2) := by decide +kernel
theorem dX1_shorten_73 : decode cX1_shorten 73 = .ok (.aload_n 0, 1) := by decide +kernel
theorem dX1_shorten_74 : decode cX1_shorten 74 = .ok (.getfield 24, 3) := by decide +kernel
theorem dX1_shorten_77 : decode cX1_shorten 77 = .ok (.iload 5, 2) := by decide +kernel
theorem dX1_shorten_79 : decode cX1_shorten 79 = .ok (.iaload, 1) := by decide +kernel
theorem dX1_shorten_80 : decode cX1_shorten 80 = .ok (.bipush (-9), 2) := by decide +kernel
